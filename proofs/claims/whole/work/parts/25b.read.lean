/-! text: the reference reads numbers, seats, parts -/
def zKy (σ τ : ZS) : Prop := zfrm (fun c g j => c = 3 ∧ g = 0 ∧ (j = 0 ∨ j = 5 ∨ j = 6)) σ τ ∧ ∀ k, (k < 9 ∨ k = 14 ∨ k = 19 ∨ 25 < k) → τ 3 0 0 k = σ 3 0 0 k
theorem zKy_r (σ : ZS) : zKy σ σ := ⟨zfrm_r, fun _ _ => rfl⟩
theorem zKy_t {σ τ υ : ZS} (h1 : zKy σ τ) (h2 : zKy τ υ) : zKy σ υ := ⟨zfrm_t h1.1 h2.1, fun k hk => (h2.2 k hk).trans (h1.2 k hk)⟩
theorem zKy_m {σ τ : ZS} (h : zKm σ τ) : zKy σ τ := ⟨zfrm_m (fun _ _ _ h => ⟨h.1, h.2.1, Or.inl h.2.2⟩) h.1, fun k hk => h.2 k (by omega)⟩
theorem zKy_u {σ τ : ZS} {k : Nat} {v : Int32} (h : zKy σ τ) (hk : 9 ≤ k ∧ k ≤ 25 ∧ k ≠ 14 ∧ k ≠ 19) : zKy σ (zup τ 3 0 0 k v) := ⟨zfrm_up h.1 ⟨rfl, rfl, Or.inl rfl⟩, fun q hq => by rw [zup_m, zru_o (by omega)]; exact h.2 q hq⟩
theorem zKy_d {σ τ : ZS} {j k : Nat} {v : Int32} (h : zKy σ τ) (hj : j = 5 ∨ j = 6) : zKy σ (zup τ 3 0 j k v) := ⟨zfrm_up h.1 ⟨rfl, rfl, by omega⟩, fun q hq => by rw [zup_o (by omega)]; exact h.2 q hq⟩
theorem zTpM_y {σ τ : ZS} {b : Nat → Nat} {T : Nat} (k : zKy σ τ) (h : zTpM σ b T) : zTpM τ b T := by
  unfold zTpM
  rw [k.2 19 (by omega), k.1 3 0 7 (by decide)]
  exact h
theorem zFm_u {σ : ZS} {q : Nat × Nat} {k : Nat} {v : Int32} (hk : k < 20) (h : zFm σ q) : zFm (zup σ 3 0 0 k v) q := by
  unfold zFm
  rw [zup_m, zru_o (by omega), zru_o (by omega)]
  exact h
theorem zFm_d {σ : ZS} {q : Nat × Nat} {j k : Nat} {v : Int32} (hj : j ≠ 0) (h : zFm σ q) : zFm (zup σ 3 0 j k v) q := by
  unfold zFm
  rw [zup_o (by omega)]
  exact h
theorem zTm_u {σ : ZS} {t : ZTok} {k : Nat} {v : Int32} (hk : k < 20) (h : zTm σ t) : zTm (zup σ 3 0 0 k v) t := by
  obtain ⟨g1, g2, g3, g4, g5⟩ := h
  refine ⟨?_, ?_, ?_, ?_, fun z => ?_⟩
  · rw [zup_m, zru_o (by omega)]; exact g1
  · rw [zup_m, zru_o (by omega)]; exact g2
  · rw [zup_m, zru_o (by omega)]; exact g3
  · rw [zup_m, zru_o (by omega)]; exact g4
  · rw [zup_m, zru_o (by omega)]; exact g5 z
theorem zTm_d {σ : ZS} {t : ZTok} {j k : Nat} {v : Int32} (hj : j ≠ 0) (h : zTm σ t) : zTm (zup σ 3 0 j k v) t := by
  unfold zTm
  rw [zup_o (by omega)]
  exact h
theorem L_looked {σ : ZS} {t : ZTok} {lo hi : Nat} (ht : zTm σ t) (hw : t.1 < 4 ∧ (t.1 = 2 → t.2.2.2 < 100)) (hl : lo < 2 ^ 31) (hh : hi < 2 ^ 31) : ∃ v τ, zcall 132 [zA 3 0 0, zI (nI lo), zI (nI hi)] σ = some (zI v, τ) ∧ zKm σ τ ∧ match zchk t lo hi with
    | .inl q => zFm τ q ∧ v = 0
    | .inr n => τ = σ ∧ v = nI n := by
  obtain ⟨t1, t2, t3, t4, t5⟩ := id ht
  unfold zchk
  rw [E_M_looked, if_pos t1, t3]
  by_cases c1 : t.1 = 2
  · have e8 := t5 c1
    have hv := hw.2 c1
    rw [if_pos (by rw [c1]; rfl), if_pos c1, L_need1, zbV_some, if_pos t1, e8, L_inB (by omega) hl hh, zbI_some]
    by_cases c2 : lo ≤ t.2.2.2 ∧ t.2.2.2 ≤ hi
    · rw [if_pos c2, decide_eq_true c2.1, decide_eq_true c2.2]
      rw [show zcall 125 [zA 3 0 0, zI (zb (true && true)), zI 3] σ = _ from L_need1 σ 3, zbV_some, if_pos t1, e8]
      exact ⟨_, σ, rfl, zKm_r σ, rfl, rfl⟩
    · obtain ⟨τ, f1, f2, f3⟩ := L_need0 (f := 3) t1 t4 (by decide) (by decide)
      have e : (decide (lo ≤ t.2.2.2) && decide (t.2.2.2 ≤ hi)) = false := Bool.eq_false_iff.mpr fun z => c2 (by simpa using z)
      rw [if_neg c2, e]
      rw [show zcall 125 [zA 3 0 0, zI (zb false), zI 3] σ = _ from f1, zbV_some, if_neg (zFm_ne f3)]
      exact ⟨_, τ, rfl, f2, f3, rfl⟩
  · obtain ⟨τ, f1, f2, f3⟩ := L_need0 (f := 2) t1 t4 (by decide) (by decide)
    rw [if_neg (show ¬ nI t.1 = 2 from nI_ne c1 (by omega) (by decide)), if_neg c1]
    rw [show zcall 125 [zA 3 0 0, zI 0, zI 2] σ = _ from f1, zbV_some, if_neg (zFm_ne f3), if_neg (zFm_ne f3)]
    exact ⟨_, τ, rfl, f2, f3, rfl⟩
theorem L_lookedF {σ : ZS} {q : Nat × Nat} (h : zFm σ q) (x y : Int32) : zcall 132 [zA 3 0 0, zI x, zI y] σ = some (zI 0, σ) := by
  rw [E_M_looked, if_neg (zFm_ne h), if_neg (zFm_ne h), if_neg (zFm_ne h)]
def zNRm (τ : ZS) (v : Int32) (r : ZP (Nat × ZTok)) : Prop := match r with
  | .inl q => zFm τ q
  | .inr p => zTm τ p.2 ∧ v = nI p.1
theorem L_rdN {b : Nat → Nat} {T lo hi : Nat} {t : ZTok} {σ : ZS} (h : zTpM σ b T) (ht : zTm σ t) (hw : ztokW T t) (hl : lo < 2 ^ 31) (hh : hi < 2 ^ 31) : ∃ v τ, zcall 131 [zA 3 0 0, zI (nI lo), zI (nI hi)] σ = some (zI v, τ) ∧ zKm σ τ ∧ zNRm τ v (zrd b T t lo hi) := by
  obtain ⟨v, τ, a1, a2, a3⟩ := L_looked (lo := lo) (hi := hi) ht ⟨hw.1, hw.2.2.2.1⟩ hl hh
  rw [E_M_readNumber, a1, zbI_some]
  unfold zrd
  cases hz : zchk t lo hi with
  | inl q =>
    rw [hz] at a3
    rw [L_nextF a3.1, zbV_some]
    exact ⟨v, τ, rfl, a2, a3.1⟩
  | inr n =>
    rw [hz] at a3
    obtain ⟨rfl, rfl⟩ := a3
    obtain ⟨υ, u1, u2, u3⟩ := L_nextM h ht.1 hw.2.2.1 ht.2.1
    rw [u1, zbV_some]
    refine ⟨_, υ, rfl, u2, ?_⟩
    show zNRm υ _ (zbn (ztok b T t.2.2.1) fun t2 => .inr (n, t2))
    cases hz2 : ztok b T t.2.2.1 with
    | inl q => rw [hz2] at u3; exact u3
    | inr t2 => rw [hz2] at u3; exact ⟨u3, rfl⟩
theorem L_rdF {σ : ZS} {q : Nat × Nat} (h : zFm σ q) (x y : Int32) : zcall 131 [zA 3 0 0, zI x, zI y] σ = some (zI 0, σ) := by
  rw [E_M_readNumber, L_lookedF h, zbI_some, L_nextF h, zbV_some]
theorem zchk_w {t : ZTok} {lo hi n : Nat} (h : zchk t lo hi = .inr n) : lo ≤ n ∧ n ≤ hi := by
  unfold zchk at h
  by_cases c1 : t.1 = 2
  · rw [if_pos c1] at h
    by_cases c2 : lo ≤ t.2.2.2 ∧ t.2.2.2 ≤ hi
    · rw [if_pos c2] at h
      cases h
      exact c2
    · rw [if_neg c2] at h; cases h
  · rw [if_neg c1] at h; cases h
theorem zrd_w {b : Nat → Nat} {T lo hi : Nat} {t : ZTok} {p : Nat × ZTok} (hw : ztokW T t) (hb : ∀ i, i < T → b i < 128) (h : zrd b T t lo hi = .inr p) : ztokW T p.2 ∧ lo ≤ p.1 ∧ p.1 ≤ hi := by
  unfold zrd at h
  cases hz : zchk t lo hi with
  | inl q => rw [hz] at h; cases h
  | inr n =>
    rw [hz] at h
    have h : (zbn (ztok b T t.2.2.1) fun t2 => (.inr (n, t2) : ZP (Nat × ZTok))) = .inr p := h
    cases hz2 : ztok b T t.2.2.1 with
    | inl q => rw [hz2] at h; cases h
    | inr t2 =>
      rw [hz2] at h
      cases h
      exact ⟨ztok_w hw.2.2.1 hb hz2, zchk_w hz⟩
/-! the reference's draft -/
def zhI (m : Nat) : Int32 := if m = 0 then -4 else nI (m - 1)
theorem zhI_lt {z s : Nat} (hs : s < 2 ^ 30) (hz : z < 2 ^ 30) : zhI z < nI s ↔ z < s + 1 := by
  unfold zhI
  by_cases c : z = 0
  · rw [if_pos c]
    exact ⟨fun _ => by omega, fun _ => nI_m4 s (by omega)⟩
  · rw [if_neg c, nI_ltI (by omega) (by omega)]
    omega
theorem zhI_mx {z s : Nat} (hs : s < 2 ^ 30) (hz : z < 2 ^ 30) : (if zhI z < nI s then nI s else zhI z) = zhI (zmx z (s + 1)) := by
  unfold zmx
  by_cases c : z < s + 1
  · rw [if_pos ((zhI_lt hs hz).mpr c), if_pos c]
    unfold zhI
    rw [if_neg (by omega), Nat.add_sub_cancel]
  · rw [if_neg (fun w => c ((zhI_lt hs hz).mp w)), if_neg c]
def zRw (a : Nat → Int32) (H : Nat → Nat → Int32) (N L : Nat) : Prop :=
  (∀ s, s < 12 → a s = H 3 s) ∧ (∀ p, p < N → a (12 + 4 * p) = H 4 p ∧ a (13 + 4 * p) = H 5 p ∧ a (14 + 4 * p) = H 6 p ∧ a (15 + 4 * p) = H 7 p) ∧ (∀ p, N ≤ p → p < 4 → a (12 + 4 * p) = -4 ∧ a (15 + 4 * p) = 0) ∧ (∀ i, 1 ≤ i → i < L → a (28 + i) = zbit (H 0 5) i) ∧ a 36 = H 0 2 ∧ a 37 = 0
def zRd (σ : ZS) (S : ZDr) : Prop :=
  (σ 3 0 0 9 = dH S 0 0 ∧ σ 3 0 0 10 = dH S 0 1 ∧ σ 3 0 0 11 = nI (dN S) ∧ σ 3 0 0 12 = nI (dL S)) ∧ (σ 3 0 0 15 = nI (dp S) ∧ σ 3 0 0 16 = zhI (dz S) ∧ σ 3 0 0 17 = zhI (do1 S)) ∧ zRw (σ 3 0 5) (dH S) (dN S) (dL S) ∧ ∀ i, i < dL S → σ 3 0 6 i = dH S 8 i
/-- bounds that drafts keep -/
def zBd (S : ZDr) : Prop := dN S ≤ 4 ∧ dL S ≤ 8 ∧ dz S ≤ 12 ∧ do1 S ≤ 4
theorem zRd_m {σ τ : ZS} {S : ZDr} (k : zKm σ τ) (h : zRd σ S) : zRd τ S := by
  unfold zRd
  rw [k.2 9 (by omega), k.2 10 (by omega), k.2 11 (by omega), k.2 12 (by omega), k.2 15 (by omega), k.2 16 (by omega), k.2 17 (by omega), k.1 3 0 5 (by decide), k.1 3 0 6 (by decide)]
  exact h
/-- a line as the reference reads it: a fault, or a draft and the token behind -/
def zRR (τ : ZS) (r : ZP (ZDr × ZTok)) : Prop := match r with
  | .inl q => zFm τ q
  | .inr p => zTm τ p.2 ∧ zRd τ p.1
theorem zshp_o {H : Nat → Nat → Int32} {R P j k : Nat} (h : 3 ≤ j ∨ (j = 0 ∧ 2 ≤ k)) : zshp H R P j k = H j k := by
  unfold zshp
  rw [if_neg (by omega), if_neg (by omega), if_neg (by omega), if_neg (by omega)]
theorem zRw_H {a : Nat → Int32} {H H' : Nat → Nat → Int32} {N L : Nat} (e3 : ∀ s, s < 12 → H' 3 s = H 3 s) (e4 : ∀ p, p < N → H' 4 p = H 4 p ∧ H' 5 p = H 5 p ∧ H' 6 p = H 6 p ∧ H' 7 p = H 7 p) (e0 : H' 0 5 = H 0 5 ∧ H' 0 2 = H 0 2) (r : zRw a H N L) : zRw a H' N L := by
  obtain ⟨r1, r2, r3, r4, r5, r6⟩ := r
  refine ⟨fun s hs => by rw [e3 s hs]; exact r1 s hs, fun p hp => ?_, r3, fun i h1 h2 => by rw [e0.1]; exact r4 i h1 h2, by rw [e0.2]; exact r5, r6⟩
  obtain ⟨q1, q2, q3, q4⟩ := e4 p hp
  rw [q1, q2, q3, q4]
  exact r2 p hp
theorem L_rHouse {b : Nat → Nat} {T : Nat} {t : ZTok} {S : ZDr} {σ : ZS} (h : zTpM σ b T) (ht : zTm σ t) (hw : ztokW T t) (hS : zRd σ S) : ∃ τ, zcall 130 [zA 3 0 0, zI 0] σ = some (zI 0, τ) ∧ zKy σ τ ∧ zRR τ (rHouse b T t S) := by
  have hb := fun j hj => (h.2.2 j hj).2
  obtain ⟨v, τ, a1, a2, a3⟩ := L_rdN (lo := 1) (hi := 3) h ht hw (by decide) (by decide)
  rw [E_M_readLineOf, if_pos rfl]
  rw [show zcall 131 [zA 3 0 0, zI 1, zI 3] σ = _ from a1, zbI_some]
  dsimp only
  unfold rHouse
  have k1 : zKy σ (zup τ 3 0 0 9 v) := zKy_u (zKy_m a2) (by decide)
  cases hz : zrd b T t 1 3 with
  | inl q =>
    rw [hz] at a3
    have f1 : zFm (zup τ 3 0 0 9 v) q := zFm_u (by decide) a3
    rw [L_rdF f1, zbI_some]
    exact ⟨_, rfl, zKy_u k1 (by decide), zFm_u (by decide) f1⟩
  | inr p =>
    rw [hz] at a3
    obtain ⟨a3, rfl⟩ := a3
    have w1 := zrd_w hw hb hz
    obtain ⟨v2, τ2, c1, c2, c3⟩ := L_rdN (lo := 2) (hi := 4) (zTpM_y k1 h) (zTm_u (by decide) a3) w1.1 (by decide) (by decide)
    rw [show zcall 131 [zA 3 0 0, zI 2, zI 4] (zup τ 3 0 0 9 (nI p.1)) = _ from c1, zbI_some]
    have k2 : zKy σ (zup τ2 3 0 0 10 v2) := zKy_u (zKy_t k1 (zKy_m c2)) (by decide)
    refine ⟨_, rfl, k2, ?_⟩
    show zRR _ (zbn (zrd b T p.2 2 4) _)
    cases hz2 : zrd b T p.2 2 4 with
    | inl q =>
      rw [hz2] at c3
      exact zFm_u (by decide) c3
    | inr q =>
      rw [hz2] at c3
      obtain ⟨c3, rfl⟩ := c3
      refine ⟨zTm_u (by decide) c3, ?_⟩
      obtain ⟨⟨r1, r2, r3, r4⟩, ⟨r5, r6, r7⟩, r8, r9⟩ := zRd_m a2 hS
      have e : ∀ k, k < 20 → k ≠ 9 → τ2 3 0 0 k = τ 3 0 0 k := fun k hk h9 => by rw [c2.2 k (by omega), zup_m, zru_o h9]
      have e9 : τ2 3 0 0 9 = nI p.1 := by rw [c2.2 9 (by omega), zup_same]
      have e5 : ∀ j, j ≠ 0 → τ2 3 0 j = τ 3 0 j := fun j hj => by rw [c2.1 3 0 j (by omega), zup_o (by omega)]
      refine ⟨⟨?_, ?_, ?_, ?_⟩, ⟨?_, ?_, ?_⟩, ?_, fun i hi => ?_⟩
      · rw [zup_m, zru_o (by decide), e9]; rfl
      · rw [zup_same]; rfl
      · rw [zup_m, zru_o (by decide), e 11 (by decide) (by decide)]; exact r3
      · rw [zup_m, zru_o (by decide), e 12 (by decide) (by decide)]; exact r4
      · rw [zup_m, zru_o (by decide), e 15 (by decide) (by decide)]; exact r5
      · rw [zup_m, zru_o (by decide), e 16 (by decide) (by decide)]; exact r6
      · rw [zup_m, zru_o (by decide), e 17 (by decide) (by decide)]; exact r7
      · rw [zup_o (by decide), e5 5 (by decide)]
        exact zRw_H (H := dH S) (H' := zshp (dH S) p.1 q.1) (fun s _ => zshp_o (Or.inl (by decide))) (fun p _ => ⟨zshp_o (Or.inl (by decide)), zshp_o (Or.inl (by decide)), zshp_o (Or.inl (by decide)), zshp_o (Or.inl (by decide))⟩) ⟨zshp_o (Or.inr ⟨rfl, by decide⟩), zshp_o (Or.inr ⟨rfl, by decide⟩)⟩ r8
      · rw [zup_o (by decide), e5 6 (by decide), r9 i hi]
        exact (show zshp (dH S) p.1 q.1 8 i = dH S 8 i from zshp_o (Or.inl (by decide))).symm
theorem L_rSoft {t : ZTok} {S : ZDr} {σ : ZS} (ht : zTm σ t) (hS : zRd σ S) (hB : zBd S) : ∃ τ, zcall 130 [zA 3 0 0, zI 1] σ = some (zI 0, τ) ∧ zKy σ τ ∧ zRR τ (rSoft t S) := by
  rw [E_M_readLineOf, if_neg (by decide), if_pos rfl]
  refine ⟨_, rfl, zKy_d (zKy_r σ) (by omega), zTm_d (by decide) ht, ?_⟩
  obtain ⟨⟨r1, r2, r3, r4⟩, ⟨r5, r6, r7⟩, ⟨b1, b2, b3, b4, b5, b6⟩, r9⟩ := hS
  have e : ∀ j k, ¬ (j = 0 ∧ k = 2) → zhu (dH S) 0 2 1 j k = dH S j k := fun j k hjk => zhu_n hjk
  refine ⟨⟨?_, ?_, ?_, ?_⟩, ⟨?_, ?_, ?_⟩, ⟨fun s hs => ?_, fun p hp => ?_, fun p h1 h2 => ?_, fun i h1 h2 => ?_, ?_, ?_⟩, fun i hi => ?_⟩
  · rw [zup_o (by decide)]; exact r1.trans (e 0 0 (by decide)).symm
  · rw [zup_o (by decide)]; exact r2.trans (e 0 1 (by decide)).symm
  · rw [zup_o (by decide)]; exact r3
  · rw [zup_o (by decide)]; exact r4
  · rw [zup_o (by decide)]; exact r5
  · rw [zup_o (by decide)]; exact r6
  · rw [zup_o (by decide)]; exact r7
  · rw [zup_m, zru_o (by omega)]; exact (b1 s hs).trans (e 3 s (by omega)).symm
  · have hN : p < dN S := hp
    have h4 := hB.1
    rw [zup_m, zru_o (by omega), zru_o (by omega), zru_o (by omega), zru_o (by omega)]
    obtain ⟨q1, q2, q3, q4⟩ := b2 p hN
    exact ⟨q1.trans (e 4 p (by omega)).symm, q2.trans (e 5 p (by omega)).symm, q3.trans (e 6 p (by omega)).symm, q4.trans (e 7 p (by omega)).symm⟩
  · rw [zup_m, zru_o (by omega), zru_o (by omega)]; exact b3 p h1 h2
  · have h2 : i < dL S := h2
    have h8 := hB.2.1
    rw [zup_m, zru_o (by omega)]; exact (b4 i h1 h2).trans (congrArg (fun x => zbit x i) (e 0 5 (by omega)).symm)
  · rw [zup_m, zru_s]; exact (show zhu (dH S) 0 2 1 0 2 = 1 from zhu_s).symm
  · rw [zup_m, zru_o (by omega)]; exact b6
  · rw [zup_o (by decide)]; exact (r9 i hi).trans (e 8 i (by omega)).symm
