/-! A NIGHT: distances, who answers, who speaks -/
def zabs (d : Int32) : Int32 := if 0 ≤ d then d else 0 - d
theorem zabs_n (d : Int32) : zabs d = if d < 0 then -d else d := by
  unfold zabs
  by_cases h : d < 0
  · rw [if_pos h, if_neg (fun z => absurd h (Int32.not_lt.mpr z)), Int32.zero_sub]
  · rw [if_neg h, if_pos (Int32.not_lt.mp h)]
def zfar (h : Nat → Nat → Int32) (s t : Nat) : Int32 := zabs (h 1 s - h 1 t) + zabs (h 2 s - h 2 t)
theorem L_distance {σ : ZS} (g : Nat) {s t : Nat} (hs : s < 12) (ht : t < 12) : zcall 16 [zA 1 g 0, zI (nI s), zI (nI t)] σ = some (zI (zfar (σ 1 g) s t), σ) := by
  rw [E_House_distance, zck_nI hs (by decide), zck_nI ht (by decide), zck_nI hs (by decide), zck_nI ht (by decide), nI_clamp (by omega), nI_clamp (by omega)]
  rfl
/-- the places of SEATS by division -/
def zpl (h : Nat → Nat → Int32) (P M : Nat) : Prop := ∀ s, s < M → h 1 s = nI (s / P) ∧ h 2 s = nI (s % P)
theorem L_farOf {σ : ZS} {h : Nat → Nat → Int32} {P M : Nat} (hP : σ 3 0 0 4 = nI P) (hp : 0 < P) (hp4 : P ≤ 4) (hM : M ≤ 12) (hpl : zpl h P M) {s t : Nat} (hs : s < M) (ht : t < M) : zcall 157 [zA 3 0 0, zI (nI s), zI (nI t)] σ = some (zI (zfar h s t), σ) := by
  have h0 : ¬ nI P = 0 := nI_ne0 hp (by omega)
  have hdv : ∀ r, zdv (nI P) r = r := fun r => if_neg h0
  rw [E_M_farOf, hP, hdv, hdv, hdv, hdv, pk_rem (by omega) hp (by omega), pk_rem (by omega) hp (by omega), pk_div (by omega) hp (by omega), pk_div (by omega) hp (by omega)]
  unfold zfar
  rw [(hpl s hs).1, (hpl t ht).1, (hpl s hs).2, (hpl t ht).2, zabs_n, zabs_n]
  dsimp only
  split <;> split <;> rfl
theorem zWF_pl {h : Nat → Nat → Int32} {R P N L S : Nat} (w : zWF h R P N L S) : zpl h P (R * P) := w.2.2.2.2.1
theorem Q_far {σ : ZS} (hi : zInv σ) (x y : Int32) : zPair (zcall 78 [zA 0 0 0, zI x, zI y]) (zcall 156 [zA 3 0 0, zI x, zI y]) σ := by
  obtain ⟨R, P, N, L, S, a1, a2, a3, a4, a5, a6, a7, a8⟩ := id hi
  have h12 := zRP12 a1.2.1.2.1 a1.2.1.2.2.2.1
  have m1 : σ 1 0 0 0 * σ 1 0 0 1 = nI (R * P) := by rw [a1.1.1, a1.1.2.1, pk_mul]
  have m2 : σ 3 0 0 3 * σ 3 0 0 4 = nI (R * P) := by rw [a3.1, a3.2.1, m1]
  have key : ∃ v, zcall 78 [zA 0 0 0, zI x, zI y] σ = some (zI v, σ) ∧ zcall 156 [zA 3 0 0, zI x, zI y] σ = some (zI v, σ) := by
    simp only [E_S_far, E_M_far, L_hasSeat, L_isSeat, zbI_some, zif_b, m1, m2]
    rcases zin2_c x (n := R * P) (by omega) with h1 | ⟨s, hs, rfl, h1⟩
    · rw [h1]
      exact ⟨-1, rfl, rfl⟩
    · rw [h1]
      rcases zin2_c y (n := R * P) (by omega) with h2 | ⟨t, ht, rfl, h2⟩
      · rw [h2]
        exact ⟨-1, rfl, rfl⟩
      · rw [h2]
        simp only [if_true]
        rw [L_distance 0 (by omega) (by omega), L_farOf (h := σ 1 0) (a3.2.1.trans a1.1.2.1) (by have := a1.2.1.2.2.1; omega) a1.2.1.2.2.2.1 h12 (zWF_pl a1) hs ht]
        exact ⟨_, rfl, rfl⟩
  obtain ⟨v, k1, k2⟩ := key
  exact zPair_same hi k1 k2
/-- the reference's working row is its row -/
def zst (σ : ZS) : ZS := zcpy σ 3 0 1 3 0 2 54
theorem zcpy_s {σ : ZS} {c g j c2 g2 j2 n k : Nat} (h : k < n) : zcpy σ c g j c2 g2 j2 n c2 g2 j2 k = σ c g j k := by simp [zcpy, h]
theorem zcpy_b {σ : ZS} {c g j c2 g2 j2 n k : Nat} (h : n ≤ k) : zcpy σ c g j c2 g2 j2 n c2 g2 j2 k = σ c2 g2 j2 k := by
  unfold zcpy
  rw [if_neg (fun z => by omega)]
theorem zcpy_o {σ : ZS} {c g j c2 g2 j2 n c' g' j' : Nat} (h : ¬ (c' = c2 ∧ g' = g2 ∧ j' = j2)) : zcpy σ c g j c2 g2 j2 n c' g' j' = σ c' g' j' := zcpy_ne (n := (c2, g2, j2)) (m := (c', g', j')) (a := (c, g, j)) (fun e => h (by cases e; exact ⟨rfl, rfl, rfl⟩))
theorem zcpy_1 {σ : ZS} {c g j c2 g2 j2 n : Nat} (h : ¬ (c = c2 ∧ g = g2 ∧ j = j2)) : zup (zcpy σ c g j c2 g2 j2 n) c2 g2 j2 n (zcpy σ c g j c2 g2 j2 n c g j n) = zcpy σ c g j c2 g2 j2 (n + 1) := by
  rw [zcpy_o h]
  funext c' g' j' k
  unfold zup
  by_cases e : c' = c2 ∧ j' = j2 ∧ g' = g2 ∧ k = n
  · obtain ⟨rfl, rfl, rfl, rfl⟩ := e
    simp [zcpy]
  · rw [if_neg e]
    unfold zcpy
    by_cases e2 : c' = c2 ∧ j' = j2 ∧ g' = g2 ∧ k < n
    · rw [if_pos e2, if_pos ⟨e2.1, e2.2.1, e2.2.2.1, by omega⟩]
    · rw [if_neg e2, if_neg]
      rintro ⟨b1, b2, b3, b4⟩
      have : ¬ k = n := fun z => e ⟨b1, b2, b3, z⟩
      exact e2 ⟨b1, b2, b3, by omega⟩
theorem L_starts_2 (σ : ZS) : ∀ d k : Nat, k + d = 54 → zev 159 2 [(0, zA 3 0 0), (1, zI (nI k))] [] (zcpy σ 3 0 1 3 0 2 k) = some (zI 0, zst σ)
  | 0, k, h => by
    obtain rfl : k = 54 := by omega
    rw [E_M_starts_2, if_neg (show ¬ nI 54 < 54 from nI_nlt (by decide) (by decide))]
    rfl
  | d + 1, k, h => by
    rw [E_M_starts_2, if_pos (show nI k < 54 from nI_lt (b := 54) (by omega) (by decide)), zck_nI (by omega) (by decide), zck_nI (by omega) (by decide), nI_clamp (by omega), nI_1]
    dsimp only
    rw [zcpy_1 (by decide)]
    exact L_starts_2 σ d (k + 1) (by omega)
theorem zcpy_0 {σ : ZS} {c g j c2 g2 j2 : Nat} : zcpy σ c g j c2 g2 j2 0 = σ := by
  funext c' g' j' k
  simp [zcpy]
theorem L_starts (σ : ZS) : zcall 159 [zA 3 0 0] σ = some (zI 0, zst σ) := by
  rw [E_M_starts]
  have := L_starts_2 σ 54 0 rfl
  rw [zcpy_0] at this
  exact this
theorem L_of {σ : ZS} {p : Nat} (w : Nat) (hp : p < 4) (hw : w < 4) : zcall 160 [zA 3 0 0, zI (nI p), zI (nI w)] σ = some (zI (σ 3 0 2 (12 + 4 * p + w)), σ) := by
  rw [E_M_of, zidx, zck_nI (by omega) (by decide), nI_clamp (by omega)]
theorem L_sits {σ : ZS} {p : Nat} (hp : p < 4) (v : Int32) : zcall 175 [zA 3 0 0, zI (nI p), zI v] σ = some (zI 0, zup σ 3 0 2 (12 + 4 * p) v) := by
  rw [E_M_sits, show (12 + (4 * nI p)) + 0 = nI (12 + 4 * p) from zidx 0, zck_nI (by omega) (by decide), nI_clamp (by omega)]
/-- a house and the reference's working row tell the same NIGHT; who is in aw is away -/
def zrn (h : Nat → Nat → Int32) (aw : Nat → Bool) (a : Nat → Int32) (N L : Nat) : Prop :=
  (∀ s, s < 12 → a s = h 3 s) ∧ (∀ p, p < N → a (12 + 4 * p) = (if aw p = true then -4 else h 4 p) ∧ a (13 + 4 * p) = h 5 p ∧ a (14 + 4 * p) = h 6 p ∧ a (15 + 4 * p) = h 7 p) ∧
  (∀ i, i < L → a (28 + i) = zbit (h 0 5) i) ∧ a 36 = h 0 2
theorem zrn_of {h : Nat → Nat → Int32} {a : Nat → Int32} {N L S : Nat} (r : zrel h a N L S) : zrn h (fun _ => false) a N L := ⟨r.1, fun p hp => r.2.1 p hp, r.2.2.1, r.2.2.2.1⟩
/-- may a ONE speak line i, behind ahead -/
def zcan (h : Nat → Nat → Int32) (aw : Nat → Bool) (i : Nat) (ahead : Int32) (p : Nat) : Bool :=
  !aw p && (!decide (h 4 p = -4) && (decide (h 3 (h 4 p).toNatClampNeg = h 8 i) && (!decide (nI i < h 6 p) &&
    (decide (ahead = -4) || (!decide (h 5 ahead.toNatClampNeg < zfar h (h 4 p).toNatClampNeg (h 4 ahead.toNatClampNeg).toNatClampNeg) && decide (zbit (h 7 p) ahead.toNatClampNeg = 0))))))
def zbest (h : Nat → Nat → Int32) (aw : Nat → Bool) (i : Nat) (ahead : Int32) : Nat → Int32
  | 0 => -4
  | p + 1 => if zcan h aw i ahead p = true ∧ (zbest h aw i ahead p = -4 ∨ h 4 p < h 4 (zbest h aw i ahead p).toNatClampNeg) then nI p else zbest h aw i ahead p
/-- what a house is asked of for a NIGHT -/
def zNW (h : Nat → Nat → Int32) (P M N L : Nat) : Prop :=
  h 0 3 = nI N ∧ h 0 4 = nI L ∧ N ≤ 4 ∧ L ≤ 8 ∧ 0 < P ∧ P ≤ 4 ∧ M ≤ 12 ∧ zpl h P M ∧ (h 0 2 = 0 ∨ h 0 2 = 1) ∧ (∀ p, p < N → h 4 p = -4 ∨ ∃ s, s < M ∧ h 4 p = nI s)
theorem zWF_NW {h : Nat → Nat → Int32} {R P N L S : Nat} (w : zWF h R P N L S) : zNW h P (R * P) N L := by
  obtain ⟨w1, w2, w3, w4, w5, w6, w7, w8, w9, w10⟩ := w
  exact ⟨w1.2.2.1, w1.2.2.2.1, w2.2.2.2.2.1, w2.2.2.2.2.2.1, by omega, w2.2.2.2.1, zRP12 w2.2.1 w2.2.2.2.1, w5, w3, w7.1⟩
theorem zbest_in {h : Nat → Nat → Int32} {aw : Nat → Bool} {i : Nat} {ahead : Int32} : ∀ n, zbest h aw i ahead n = -4 ∨ ∃ q, q < n ∧ zbest h aw i ahead n = nI q ∧ zcan h aw i ahead q = true
  | 0 => Or.inl rfl
  | n + 1 => by
    unfold zbest
    by_cases hc : zcan h aw i ahead n = true ∧ (zbest h aw i ahead n = -4 ∨ h 4 n < h 4 (zbest h aw i ahead n).toNatClampNeg)
    · rw [if_pos hc]
      exact Or.inr ⟨n, by omega, rfl, hc.1⟩
    · rw [if_neg hc]
      rcases zbest_in n with e | ⟨q, hq, e1, e2⟩
      · exact Or.inl e
      · exact Or.inr ⟨q, by omega, e1, e2⟩
/-- him who spoke the line ahead: nobody, or one who is there -/
def zah (h : Nat → Nat → Int32) (aw : Nat → Bool) (M N : Nat) (ahead : Int32) : Prop := ahead = -4 ∨ ∃ q, q < N ∧ ahead = nI q ∧ aw q = false ∧ ∃ s, s < M ∧ h 4 q = nI s
theorem L_answers {σ : ZS} (g : Nat) {p q s t : Nat} (hp : p < 4) (hq : q < 4) (hs : s < 12) (ht : t < 12) (hps : σ 1 g 4 p = nI s) (hqt : σ 1 g 4 q = nI t) : zcall 26 [zA 1 g 0, zI (nI p), zI (nI q)] σ = some (zI (zb (!decide (σ 1 g 5 q < zfar (σ 1 g) s t) && decide (zbit (σ 1 g 7 p) q = 0))), σ) := by
  rw [E_Night_answers, zck_nI hp (by decide), zck_nI hq (by decide), nI_clamp (by omega), nI_clamp (by omega), hps, hqt, L_distance g hs ht, zbI_some, zck_nI hq (by decide)]
  by_cases h1 : σ 1 g 5 q < zfar (σ 1 g) s t
  · rw [if_pos h1]
    simp [h1, zb]
  · rw [if_neg h1, L_isFeud g hp, zbI_some]
    by_cases h2 : zbit (σ 1 g 7 p) q = 0
    · rw [if_pos h2]
      simp [h1, h2, zb]
    · rw [if_neg h2]
      simp [h1, h2, zb]
/-- the class: the best of those that can -/
theorem L_speakerOf_11 {σ : ZS} {g P M N L i : Nat} {aw : Nat → Bool} {away ahead : Int32} (w : zNW (σ 1 g) P M N L) (hi : i < L) (haw : ∀ p, p < N → zbit away p = zb (aw p)) (hah : zah (σ 1 g) aw M N ahead) : ∀ (d p : Nat) (least : Int32), p + d = N → least = (if zbest (σ 1 g) aw i ahead p = -4 then 12 else σ 1 g 4 (zbest (σ 1 g) aw i ahead p).toNatClampNeg) →
    zev 25 11 [(0, zA 1 g 0), (1, zI (nI i)), (2, zI ahead), (3, zI away), (4, zI (zbest (σ 1 g) aw i ahead p)), (5, zI least), (6, zI (nI p))] [] σ = some (zI (zbest (σ 1 g) aw i ahead N), σ)
  | 0, p, least, hp, hl => by
    obtain rfl : p = N := by omega
    rw [E_Night_speakerOf_11, w.1, if_neg (nI_nlt (by omega) (by have := w.2.2.1; omega))]
  | d + 1, p, least, hp, hl => by
    obtain ⟨w1, w2, w3, w4, w5, w6, w7, w8, w9, w10⟩ := id w
    have hpN : p < N := by omega
    have hp4 : p < 4 := by omega
    -- nothing better
    have skip : zcan (σ 1 g) aw i ahead p = false ∨ ¬ (zbest (σ 1 g) aw i ahead p = -4 ∨ σ 1 g 4 p < σ 1 g 4 (zbest (σ 1 g) aw i ahead p).toNatClampNeg) → zev 25 11 [(0, zA 1 g 0), (1, zI (nI i)), (2, zI ahead), (3, zI away), (4, zI (zbest (σ 1 g) aw i ahead p)), (5, zI least), (6, zI (nI p + 1))] [] σ = some (zI (zbest (σ 1 g) aw i ahead N), σ) := by
      intro h
      have e : zbest (σ 1 g) aw i ahead (p + 1) = zbest (σ 1 g) aw i ahead p := by
        conv => lhs; unfold zbest
        rw [if_neg]
        rintro ⟨b1, b2⟩
        rcases h with h | h
        · rw [h] at b1; cases b1
        · exact h b2
      rw [nI_1]
      have := L_speakerOf_11 w hi haw hah d (p + 1) least (by omega) (by rw [e]; exact hl)
      rw [e] at this
      exact this
    have take : zcan (σ 1 g) aw i ahead p = true → (zbest (σ 1 g) aw i ahead p = -4 ∨ σ 1 g 4 p < σ 1 g 4 (zbest (σ 1 g) aw i ahead p).toNatClampNeg) → zev 25 11 [(0, zA 1 g 0), (1, zI (nI i)), (2, zI ahead), (3, zI away), (4, zI (nI p)), (5, zI (σ 1 g 4 p)), (6, zI (nI p + 1))] [] σ = some (zI (zbest (σ 1 g) aw i ahead N), σ) := by
      intro h1 h2
      have e : zbest (σ 1 g) aw i ahead (p + 1) = nI p := by
        conv => lhs; unfold zbest
        rw [if_pos ⟨h1, h2⟩]
      rw [nI_1]
      have := L_speakerOf_11 w hi haw hah d (p + 1) (σ 1 g 4 p) (by omega) (by rw [e, if_neg (nI_ne4 (by omega)), nI_clamp (by omega)])
      rw [e] at this
      exact this
    rw [E_Night_speakerOf_11, w1, if_pos (nI_lt hpN (by omega)), zck_nI hp4 (by decide), nI_clamp (by omega)]
    by_cases h1 : σ 1 g 4 p = -4
    · rw [if_pos h1]
      exact skip (Or.inl (by simp [zcan, h1]))
    · rw [if_neg h1]
      obtain ⟨s, hs, hps⟩ := (w10 p hpN).resolve_left h1
      have hlt : σ 1 g 4 p < least ↔ (zbest (σ 1 g) aw i ahead p = -4 ∨ σ 1 g 4 p < σ 1 g 4 (zbest (σ 1 g) aw i ahead p).toNatClampNeg) := by
        rw [hl]
        by_cases hb : zbest (σ 1 g) aw i ahead p = -4
        · rw [if_pos hb]
          refine ⟨fun _ => Or.inl hb, fun _ => ?_⟩
          rw [hps]
          exact nI_lt (b := 12) (by omega) (by decide)
        · rw [if_neg hb]
          exact ⟨Or.inr, fun z => z.resolve_left hb⟩
      by_cases h2 : σ 1 g 4 p < least
      · rw [if_pos h2]
        have hbst := hlt.mp h2
        have hcl : (σ 1 g 4 p).toNatClampNeg = s := by rw [hps, nI_clamp (by omega)]
        rw [hps, zck_nI (by omega) (by decide), zck_nI (by omega) (by decide), nI_clamp (by omega), nI_clamp (by omega)]
        by_cases h3 : σ 1 g 3 s = σ 1 g 8 i
        · rw [if_pos h3, zck_nI hp4 (by decide)]
          by_cases h4 : nI i < σ 1 g 6 p
          · rw [if_pos h4]
            exact skip (Or.inl (by simp [zcan, h4]))
          · rw [if_neg h4]
            have hbw := haw p hpN
            unfold zbit at hbw
            rw [hbw, zif_b]
            cases h5 : aw p with
            | true =>
              rw [if_pos rfl]
              exact skip (Or.inl (by simp [zcan, h5]))
            | false =>
              rw [if_neg (by decide)]
              rw [← hps]
              rcases hah with rfl | ⟨q, hq, rfl, -, t, ht, hqt⟩
              · rw [if_pos rfl]
                exact take (by simp [zcan, h5, h1, hcl, h3, h4]) hbst
              · rw [if_neg (nI_ne4 (by omega)), L_answers g hp4 (by omega) (s := s) (t := t) (by omega) (by omega) hps hqt, zbI_some, zif_b]
                have hq2 : (nI q).toNatClampNeg = q := nI_clamp (by omega)
                have ht2 : (σ 1 g 4 q).toNatClampNeg = t := by rw [hqt, nI_clamp (by omega)]
                cases hz : (!decide (σ 1 g 5 q < zfar (σ 1 g) s t) && decide (zbit (σ 1 g 7 p) q = 0)) with
                | true =>
                  rw [if_pos rfl]
                  refine take ?_ hbst
                  unfold zcan
                  rw [hq2, hcl, ht2, hz]
                  simp [h5, h1, h3, h4]
                | false =>
                  rw [if_neg (by decide)]
                  refine skip (Or.inl ?_)
                  unfold zcan
                  rw [hq2, hcl, ht2, hz]
                  simp [nI_ne4 (show q < 2 ^ 31 by omega)]
        · rw [if_neg h3]
          exact skip (Or.inl (by simp [zcan, hcl, h3]))
      · rw [if_neg h2]
        exact skip (Or.inr (fun z => h2 (hlt.mpr z)))
theorem L_speakerOf {σ : ZS} {g P M N L i : Nat} {aw : Nat → Bool} {away ahead : Int32} (w : zNW (σ 1 g) P M N L) (hi : i < L) (haw : ∀ p, p < N → zbit away p = zb (aw p)) (hah : zah (σ 1 g) aw M N ahead) : zcall 25 [zA 1 g 0, zI (nI i), zI ahead, zI away] σ = some (zI (zbest (σ 1 g) aw i ahead N), σ) := by
  rw [E_Night_speakerOf]
  exact L_speakerOf_11 w hi haw hah N 0 12 (by omega) rfl
