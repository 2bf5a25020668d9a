/-! best: the reference's rows -/
theorem zgd_p {M : Nat} : ∀ {l : List Nat}, zgd M l = true ↔ l.Pairwise (fun a b => a ≠ b) ∧ ∀ s, s ∈ l → s < M
  | [] => ⟨fun _ => ⟨List.Pairwise.nil, fun _ h => absurd h (by simp)⟩, fun _ => rfl⟩
  | a :: l => by
    rw [zgd_c, List.pairwise_cons, zgd_p (l := l)]
    have e : zvf l a = true ↔ ∀ b, b ∈ l → a ≠ b := by
      unfold zvf
      simp only [Bool.not_eq_true', List.contains_eq_mem, decide_eq_false_iff_not]
      exact ⟨fun h b hb e => h (e ▸ hb), fun h hm => h a hm rfl⟩
    rw [e]
    constructor
    · rintro ⟨h1, h2, h3, h4⟩
      refine ⟨⟨h2, h3⟩, fun s hs => ?_⟩
      rcases List.mem_cons.mp hs with rfl | h
      · exact h1
      · exact h4 s h
    · rintro ⟨⟨h2, h3⟩, h4⟩
      exact ⟨h4 a (List.mem_cons_self ..), h2, h3, fun s hs => h4 s (List.mem_cons_of_mem _ hs)⟩
theorem zgd_r {M : Nat} (l : List Nat) : zgd M l.reverse = zgd M l := by
  have h : zgd M l.reverse = true ↔ zgd M l = true := by
    rw [zgd_p, zgd_p, List.pairwise_reverse]
    constructor
    · rintro ⟨h1, h2⟩
      exact ⟨h1.imp fun h => h.symm, fun s hs => h2 s (List.mem_reverse.mpr hs)⟩
    · rintro ⟨h1, h2⟩
      exact ⟨h1.imp fun h => h.symm, fun s hs => h2 s (List.mem_reverse.mp hs)⟩
  cases h1 : zgd M l.reverse <;> cases h2 : zgd M l <;> rw [h1, h2] at h <;> simp at h ⊢
theorem zgt_app (s : Nat) (r : List Nat) : ∀ u : List Nat, zgt (u ++ s :: r) r.length = s
  | [] => if_pos rfl
  | a :: u => by
    show (if r.length = (u ++ s :: r).length then a else zgt (u ++ s :: r) r.length) = s
    rw [if_neg (by rw [List.length_append, List.length_cons]; omega), zgt_app s r u]
theorem L_seatingsM {σ : ZS} {h : Nat → Nat → Int32} {R P N L S : Nat} (c : zCx σ h R P N L S) : ∀ d p : Nat, p + d = N → zev 172 4 [(0, zA 3 0 0), (1, zI (nI ((R * P) ^ zct (zhr h) p))), (2, zI (nI p))] [] σ = some (zI (nI ((R * P) ^ zct (zhr h) N)), σ)
  | 0, p, hp => by
    have hN := c.1.2.1.2.2.2.2.1
    obtain rfl : p = N := by omega
    rw [E_M_seatings_4, c.2.2.2.2.1, if_neg (nI_nlt (Nat.le_refl _) (by omega))]
  | d + 1, p, hp => by
    have hN := c.1.2.1.2.2.2.2.1
    have ih := L_seatingsM c d (p + 1) (by omega)
    have hm := zmk_16 (zhr h) hN
    have tb : (zmk (zhr h) N).testBit p = zhr h p := by rw [zmk_tb]; simp [show p < N by omega]
    have m1 : σ 3 0 0 3 * σ 3 0 0 4 = nI (R * P) := by rw [c.2.2.1, c.2.2.2.1, pk_mul]
    have e : zct (zhr h) (p + 1) = zct (zhr h) p + (if zhr h p = true then 1 else 0) := rfl
    rw [e] at ih
    rw [E_M_seatings_4, c.2.2.2.2.1, if_pos (nI_lt (by omega) (by omega)), L_hereM c, zbI_some, show (nI (zmk (zhr h) N) >>> (nI p &&& 31)) &&& 1 = zbit (nI (zmk (zhr h) N)) p from rfl, zbit12 _ (by omega) p (by omega), tb, E_M_seats, zbI_some, m1, pk_mul, ← Nat.pow_succ, nI_1, Int32.mul_one]
    cases hz : zhr h p with
    | true =>
      rw [hz, if_pos rfl] at ih
      rw [if_pos (show (if true = true then (1 : Int32) else 0) = 1 from rfl)]
      exact ih
    | false =>
      rw [hz, if_neg (by decide), Nat.add_zero] at ih
      rw [if_neg (show ¬ (if false = true then (1 : Int32) else 0) = 1 by decide)]
      exact ih
theorem L_seatings {σ : ZS} {h : Nat → Nat → Int32} {R P N L S : Nat} (c : zCx σ h R P N L S) : zcall 172 [zA 3 0 0] σ = some (zI (nI ((R * P) ^ zct (zhr h) N)), σ) := by
  rw [E_M_seatings]
  exact L_seatingsM c N 0 (by omega)
/-- those from p on as l tells -/
def zhp (h : Nat → Nat → Int32) (N : Nat) (x : List Nat) (p : Nat) : Nat → Nat → Int32 := fun j i => if j = 4 ∧ p ≤ i then zhl h (zmvr (zhr h) N) x 4 i else h j i
theorem zhp_0 {h : Nat → Nat → Int32} {N : Nat} {x : List Nat} : zhp h N x 0 = zhl h (zmvr (zhr h) N) x := by
  funext j i
  unfold zhp
  by_cases e : j = 4
  · rw [if_pos ⟨e, Nat.zero_le _⟩, e]
  · rw [if_neg (fun z => e z.1), zhl_o e]
theorem zMN_e {σ : ZS} {h k : Nat → Nat → Int32} {P N L : Nat} (hN : N ≤ 4) (e : ∀ j i, (j = 4 → i < N) → h j i = k j i) (m : zMN σ h zno P N L) : zMN σ k zno P N L := by
  obtain ⟨m1, m2, m3, m4, r1, r2, r3, r4⟩ := m
  refine ⟨m1, m2, m3, fun i hi => ?_, fun s hs => ?_, fun p hp => ?_, fun i hi => ?_, ?_⟩
  · rw [← e 8 i (by omega)]; exact m4 i hi
  · rw [← e 3 s (by omega)]; exact r1 s hs
  · rw [← e 4 p (by omega), ← e 5 p (by omega), ← e 6 p (by omega), ← e 7 p (by omega)]; exact r2 p hp
  · rw [← e 0 5 (by omega)]; exact r3 i hi
  · rw [← e 0 2 (by omega)]; exact r4
theorem L_seatsBy19 {h : Nat → Nat → Int32} {R P N L S : Nat} (w : zWF h R P N L S) {x : List Nat} (hx : x.length = zct (zhr h) N) (hlo : zvlo (R * P) x) : ∀ (p : Nat) (u r : List Nat) (σ : ZS), p ≤ N → x = u.reverse ++ r → r.length = zct (zhr h) p → zvlo (R * P) r → zMN σ (zhp h N x p) zno P N L → σ 3 0 0 3 = nI R →
    ∃ τ, zev 174 19 [(0, zA 3 0 0), (2, zI (nI (zcd (R * P) r))), (3, zI (nI (ztk u u.length))), (4, zI (zb (zgd (R * P) u))), (5, zI (nI p - 1))] [] σ = some (zI (zb (zgd (R * P) x)), τ) ∧ zfrm (fun c g j => c = 3 ∧ g = 0 ∧ j = 2) σ τ ∧ zMN τ (zhl h (zmvr (zhr h) N) x) zno P N L
  | 0, u, r, σ, hp, ex, hr, lr, m, hR => by
    have er : r = [] := List.length_eq_zero_iff.mp hr
    subst er
    rw [List.append_nil] at ex
    refine ⟨σ, ?_, zfrm_r, by rw [← zhp_0]; exact m⟩
    rw [E_M_seatsBy_19, if_pos (show nI 0 - 1 < 0 by decide), zbb_b, ex, zgd_r]
  | p + 1, u, r, σ, hp, ex, hr, lr, m, hR => by
    have hN := w.2.1.2.2.2.2.1
    have hL := w.2.1.2.2.2.2.2.1
    have h12 := zRP12 w.2.1.2.1 w.2.1.2.2.2.1
    have hM0 : 0 < R * P := Nat.mul_pos w.2.1.1 (by have := w.2.1.2.2.1; omega)
    have hz : ∀ z, zdv (nI (R * P)) z = z := fun z => if_neg (nI_ne0 hM0 (by omega))
    have m1 : σ 3 0 0 3 * σ 3 0 0 4 = nI (R * P) := by rw [hR, m.1, pk_mul]
    have e4 : σ 3 0 2 (12 + 4 * p) = h 4 p := by
      rw [(m.2.2.2.2.2.1 p (by omega)).1, if_neg (show ¬ zno p = true from Bool.false_ne_true)]
      unfold zhp
      rw [if_neg (by omega)]
    rw [nI_pred, E_M_seatsBy_19, if_neg (nI_pos (by omega)), L_of0 (by omega), zbI_some, e4]
    by_cases h4 : h 4 p = -4
    · have hh : ¬ zhr h p = true := by unfold zhr; rw [decide_eq_true h4]; decide
      have ec : zct (zhr h) (p + 1) = zct (zhr h) p := by
        show zct (zhr h) p + (if zhr h p = true then 1 else 0) = _
        rw [if_neg hh, Nat.add_zero]
      rw [if_pos h4, show nI p + (-1) = nI p - 1 from (Int32.sub_eq_add_neg _ _).symm]
      refine L_seatsBy19 w hx hlo p u r σ (by omega) ex (by rw [hr, ec]) lr (zMN_e hN (fun j i hi => ?_) m) hR
      unfold zhp
      by_cases e : j = 4 ∧ i = p
      · obtain ⟨rfl, rfl⟩ := e
        rw [if_neg (by omega), if_pos ⟨rfl, Nat.le_refl _⟩, zhl_n]
        intro j hj e
        obtain ⟨q, -, q2, -, q4⟩ := zmvr_j N (by rw [← hx]; exact hj)
        rw [e] at q4
        subst q4
        exact hh q2
      · by_cases e2 : j = 4 ∧ p + 1 ≤ i
        · rw [if_pos e2, if_pos ⟨e2.1, by omega⟩]
        · rw [if_neg e2, if_neg (by omega)]
    · have hh : zhr h p = true := by unfold zhr; rw [decide_eq_false h4]; rfl
      rw [zct_s hh] at hr
      cases r with
      | nil => exact absurd hr (by simp)
      | cons s r =>
        rw [List.length_cons] at hr
        have hr : r.length = zct (zhr h) p := by omega
        have hs := lr.1
        have hcd : zcd (R * P) (s :: r) < 2 ^ 31 := by
          have h1 := zcd_lt lr
          have h2 : (s :: r).length ≤ 4 := by rw [List.length_cons, hr]; have := zct_le (zhr h) p; omega
          have h3 : (R * P) ^ (s :: r).length ≤ 12 ^ 4 := Nat.le_trans (Nat.pow_le_pow_left h12 _) (Nat.pow_le_pow_right (by omega) h2)
          omega
        have e1 : nI (zcd (R * P) (s :: r)) - nI (zcd (R * P) (s :: r)) / nI (R * P) * nI (R * P) = nI s := by
          rw [pk_rem hcd hM0 (by omega)]
          show nI ((zcd (R * P) r * (R * P) + s) % (R * P)) = _
          rw [Nat.mul_comm, Nat.mul_add_mod, Nat.mod_eq_of_lt hs]
        have e2 : nI (zcd (R * P) (s :: r)) / nI (R * P) = nI (zcd (R * P) r) := by
          rw [pk_div hcd hM0 (by omega)]
          show nI ((zcd (R * P) r * (R * P) + s) / (R * P)) = _
          rw [Nat.mul_comm, Nat.mul_add_div hM0, Nat.div_eq_of_lt hs, Nat.add_zero]
        have ez : zgt x r.length = s := by rw [ex]; exact zgt_app s r u.reverse
        have exl : r.length < x.length := by rw [ex, List.length_append, List.length_cons]; omega
        have ep : zhl h (zmvr (zhr h) N) x 4 p = nI s := by
          have h1 := zhl_m (h := h) (j := r.length) (zmvr_i (b := zhr h) (n := N)) x (by omega) exl
          rw [hr, zmvr_p hh N (by omega), ← hr, ez] at h1
          exact h1
        have m2 : zMN (zup σ 3 0 2 (12 + 4 * p) (nI s)) (zhp h N x p) zno P N L := by
          refine zMN_e hN (fun j i hi => ?_) (zMN_p (d := 0) (v := nI s) (by omega) (show p < N by omega) hN hL (fun _ => rfl) m)
          show zhu (zhp h N x (p + 1)) 4 p (nI s) j i = zhp h N x p j i
          unfold zhp
          by_cases e : j = 4 ∧ i = p
          · obtain ⟨rfl, rfl⟩ := e
            rw [zhu_s, if_pos ⟨rfl, Nat.le_refl _⟩, ep]
          · rw [zhu_n e]
            by_cases e3 : j = 4 ∧ p + 1 ≤ i
            · rw [if_pos e3, if_pos ⟨e3.1, by omega⟩]
            · rw [if_neg e3, if_neg (by omega)]
        have ex2 : x = (s :: u).reverse ++ r := by rw [ex, List.reverse_cons, List.append_assoc]; rfl
        obtain ⟨τ, t1, t2, t3⟩ := L_seatsBy19 w hx hlo p (s :: u) r (zup σ 3 0 2 (12 + 4 * p) (nI s)) (by omega) ex2 hr lr.2 m2 (by rw [zup_o (by decide)]; exact hR)
        refine ⟨τ, ?_, zfrm_t (zfrm_up zfrm_r ⟨rfl, rfl, rfl⟩) t2, t3⟩
        have ek : ztk (s :: u) (s :: u).length = ztk u u.length ||| 1 <<< s := by
          rw [List.length_cons]
          show ztk (s :: u) u.length ||| 1 <<< zgt (s :: u) u.length = _
          rw [ztk_c _ (Nat.le_refl _), show zgt (s :: u) u.length = s from if_pos rfl]
        have eg : zgd (R * P) (s :: u) = (zvf u s && zgd (R * P) u) := by
          show (decide (s < R * P) && (zvf u s && zgd (R * P) u)) = _
          rw [decide_eq_true hs, Bool.true_and]
        have eb : (nI (ztk u u.length) >>> (nI s &&& 31)) &&& 1 = zb (!zvf u s) := by
          rw [show (nI (ztk u u.length) >>> (nI s &&& 31)) &&& 1 = zbit (nI (ztk u u.length)) s from rfl, zbit_bt _ (by omega), zvb_n _ (by omega), ztk_t]
        rw [ek, eg] at t1
        rw [if_neg h4, E_M_seats, zbI_some, m1]
        dsimp only
        rw [hz, E_M_seats, zbI_some, m1]
        rw [hz, e1, e2, zn_1 s (by omega), zn_or, L_sits (by omega), zbV_some, zbV_some, eb, zif_b, zif_b, show nI p + (-1) = nI p - 1 from (Int32.sub_eq_add_neg _ _).symm]
        cases hg : zgd (R * P) u with
        | false =>
          rw [hg, Bool.and_false] at t1
          rw [if_neg (by decide)]
          exact t1
        | true =>
          rw [hg, Bool.and_true] at t1
          rw [if_pos rfl]
          cases hv : zvf u s with
          | true =>
            rw [hv] at t1
            rw [if_neg (show ¬ (!true) = true by decide)]
            exact t1
          | false =>
            rw [hv] at t1
            rw [if_pos (show (!false) = true from rfl)]
            exact t1
theorem L_seatsBy {σ : ZS} {h : Nat → Nat → Int32} {R P N L S : Nat} (c : zCx σ h R P N L S) {x : List Nat} (hx : x.length = zct (zhr h) N) (hlo : zvlo (R * P) x) : ∃ τ, zcall 174 [zA 3 0 0, zI (nI (zcd (R * P) x))] σ = some (zI (zb (zgd (R * P) x)), τ) ∧ zfrm zScr σ τ ∧ zMN τ (zhl h (zmvr (zhr h) N) x) zno P N L := by
  have hN := c.1.2.1.2.2.2.2.1
  have c2 := zCx_f (zst_f σ) c
  have m := zMN_e (k := zhp h N x N) hN (fun j i hi => by unfold zhp; rw [if_neg (by omega)]) (zCx_MN c)
  obtain ⟨τ, t1, t2, t3⟩ := L_seatsBy19 c.1 hx hlo N [] x (zst σ) (Nat.le_refl _) (by simp) hx hlo m c2.2.2.1
  refine ⟨τ, ?_, zfrm_t (zst_f σ) (zfrm_m z2_s t2), t3⟩
  rw [E_M_seatsBy, L_starts, zbV_some, c2.2.2.2.2.1]
  exact t1
/-- what the reference has found -/
def zaM : Option (Nat × List Nat) → Int32
  | none => -1
  | some (m, _) => nI m
def zaF (M : Nat) : Option (Nat × List Nat) → Int32
  | none => 0
  | some (_, y) => nI (zcd M y)
def zbF2 (h : Nat → Nat → Int32) (R P N L : Nat) (row : Nat) (a : Option (Nat × List Nat)) : Option (Nat × List Nat) := if zgd (R * P) (zdg (R * P) (zct (zhr h) N) row) = true then zub (zvn1 h N L) a (zdg (R * P) (zct (zhr h) N) row) else a
theorem zT4k {R P N : Nat} {h : Nat → Nat → Int32} (h12 : R * P ≤ 12) (hN : N ≤ 4) : (R * P) ^ zct (zhr h) N ≤ 20736 := by
  have h1 := zct_le (zhr h) N
  exact Nat.le_trans (Nat.pow_le_pow_left h12 _) (Nat.pow_le_pow_right (n := 12) (j := 4) (by omega) (by omega))
theorem L_bestM {h : Nat → Nat → Int32} {R P N L S : Nat} (x1 : Int32) : ∀ (d row : Nat) (a : Option (Nat × List Nat)) (σ : ZS), row + d = (R * P) ^ zct (zhr h) N → zCx σ h R P N L S → (∀ m y, a = some (m, y) → m ≤ 8) →
    ∃ τ, zev 171 24 [(0, zA 3 0 0), (1, zI x1), (2, zI (zaM a)), (3, zI (zaF (R * P) a)), (4, zI (nI row))] [] σ = zev 171 24 [(0, zA 3 0 0), (1, zI x1), (2, zI (zaM (zit (zbF2 h R P N L) row d a))), (3, zI (zaF (R * P) (zit (zbF2 h R P N L) row d a))), (4, zI (nI ((R * P) ^ zct (zhr h) N)))] [] τ ∧ zfrm zScr σ τ
  | 0, row, a, σ, hr, c, _ => ⟨σ, by rw [show row = (R * P) ^ zct (zhr h) N by omega]; rfl, zfrm_r⟩
  | d + 1, row, a, σ, hr, c, ha => by
    have hN := c.1.2.1.2.2.2.2.1
    have hL := c.1.2.1.2.2.2.2.2.1
    have h12 := zRP12 c.1.2.1.2.1 c.1.2.1.2.2.2.1
    have hM0 : 0 < R * P := Nat.mul_pos c.1.2.1.1 (by have := c.1.2.1.2.2.1; omega)
    have hT := zT4k (h := h) h12 hN
    have hlo := zdg_lo hM0 (zct (zhr h) N) row
    have hcd := zcd_dg (M := R * P) (zct (zhr h) N) row (by omega)
    have hlen := zdg_l (R * P) (zct (zhr h) N) row
    obtain ⟨τ, t1, t2, t3⟩ := L_seatsBy c hlen hlo
    rw [hcd] at t1
    have c2 := zCx_f t2 c
    have hlt : nI row < nI ((R * P) ^ zct (zhr h) N) := nI_lt (by omega) (by omega)
    have hz : zit (zbF2 h R P N L) row (d + 1) a = zit (zbF2 h R P N L) (row + 1) d (zbF2 h R P N L row a) := rfl
    rw [hz, E_M_best_24, L_seatings c, zbI_some, if_pos hlt, t1, zbI_some, zif_b, nI_1]
    have hna : ¬ zaM a < -1 := by
      cases a with
      | none => decide
      | some q =>
        have h1 : q.1 ≤ 8 := ha q.1 q.2 rfl
        have h2 := nI_m1 q.1 (by omega)
        intro z
        exact absurd (Int32.lt_trans h2 z) (by decide)
    cases hg : zgd (R * P) (zdg (R * P) (zct (zhr h) N) row) with
    | false =>
      have e : zbF2 h R P N L row a = a := if_neg (by rw [hg]; decide)
      obtain ⟨υ, u1, u2⟩ := L_bestM x1 d (row + 1) a τ (by omega) c2 ha
      rw [e, if_neg (by decide), if_neg hna, if_neg hna]
      exact ⟨υ, u1, zfrm_t t2 u2⟩
    | true =>
      obtain ⟨τ2, p1, p2, -⟩ := L_nightNow (zNW_l (mv := zmvr (zhr h) N) (zWF_NW c.1) hlo) t3
      have p1 : zcall 164 [zA 3 0 0] τ = some (zI (nI (zvn1 h N L (zdg (R * P) (zct (zhr h) N) row))), τ2) := p1
      have f := zfrm_t t2 (zfrm_m zMX_s p2)
      have hV := zvn1_le h N L (zdg (R * P) (zct (zhr h) N) row)
      have e : zbF2 h R P N L row a = zub (zvn1 h N L) a (zdg (R * P) (zct (zhr h) N) row) := if_pos hg
      have hnew : zub (zvn1 h N L) a (zdg (R * P) (zct (zhr h) N) row) = some (zvn1 h N L (zdg (R * P) (zct (zhr h) N) row), zdg (R * P) (zct (zhr h) N) row) ∧ zaM a < nI (zvn1 h N L (zdg (R * P) (zct (zhr h) N) row)) ∨ zub (zvn1 h N L) a (zdg (R * P) (zct (zhr h) N) row) = a ∧ ¬ zaM a < nI (zvn1 h N L (zdg (R * P) (zct (zhr h) N) row)) := by
        cases a with
        | none => exact Or.inl ⟨rfl, nI_m1 _ (by omega)⟩
        | some q =>
          obtain ⟨m, y⟩ := q
          have h1 : m ≤ 8 := ha m y rfl
          by_cases hlt : m < zvn1 h N L (zdg (R * P) (zct (zhr h) N) row)
          · exact Or.inl ⟨if_pos hlt, nI_lt hlt (by omega)⟩
          · exact Or.inr ⟨if_neg hlt, nI_nlt (by omega) (by omega)⟩
      rw [e, if_pos rfl, p1, zbI_some]
      rcases hnew with ⟨e1, e2⟩ | ⟨e1, e2⟩
      · obtain ⟨υ, u1, u2⟩ := L_bestM x1 d (row + 1) (some (zvn1 h N L (zdg (R * P) (zct (zhr h) N) row), zdg (R * P) (zct (zhr h) N) row)) τ2 (by omega) (zCx_f f c) (fun m y he => by cases he; omega)
        rw [e1, if_pos e2, if_pos e2]
        refine ⟨υ, ?_, zfrm_t f u2⟩
        rw [show zaF (R * P) (some (zvn1 h N L (zdg (R * P) (zct (zhr h) N) row), zdg (R * P) (zct (zhr h) N) row)) = nI row from congrArg nI hcd] at u1
        exact u1
      · obtain ⟨υ, u1, u2⟩ := L_bestM x1 d (row + 1) a τ2 (by omega) (zCx_f f c) ha
        rw [e1, if_neg e2, if_neg e2]
        exact ⟨υ, u1, zfrm_t f u2⟩
