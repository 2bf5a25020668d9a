/-! read -/
theorem nI_neg {n m : Nat} (h : n < 2 ^ 31) (hm : 0 < m) (hm2 : m < 2 ^ 31) : ¬ nI n = -nI m := by
  intro e
  have h1 := congrArg Int32.toInt e
  rw [nI_toInt h, Int32.toInt_neg, nI_toInt hm2, Int.bmod_def] at h1
  omega
theorem zps_t (f : Int32) {k : Nat} (hk : k ≤ 60) : (f + nI k).toInt = if f.toInt + (k : Int) < 2147483648 then f.toInt + (k : Int) else f.toInt + (k : Int) - 4294967296 := by
  have h1 := Int32.toInt_lt f
  have h2 := Int32.le_toInt f
  rw [Int32.toInt_add, nI_toInt (by omega), Int.bmod_def]
  split <;> split <;> omega
theorem zps_in (f : Int32) {k n : Nat} (hk : k ≤ 60) (hn : n ≤ 40) : (zin2 (f + nI k) (nI 0) (nI n - 1) = false ∧ ¬ (0 ≤ f.toInt + (k : Int) ∧ f.toInt + (k : Int) < (n : Int))) ∨ (zin2 (f + nI k) (nI 0) (nI n - 1) = true ∧ ∃ a : Nat, a < n ∧ f + nI k = nI a ∧ f.toInt + (k : Int) = (a : Int)) := by
  have ht := zps_t f hk
  have h1 := Int32.toInt_lt f
  rcases zin2_c (f + nI k) (n := n) (by omega) with h | ⟨a, ha, e, h⟩
  · refine Or.inl ⟨h, fun z => ?_⟩
    have e : f + nI k = nI (f.toInt + (k : Int)).toNat := by
      rw [← Int32.toInt_inj, ht, nI_toInt (by omega), if_pos (by omega)]
      omega
    rw [e, zin2_t (by omega) (by omega)] at h
    exact absurd h (by decide)
  · refine Or.inr ⟨h, a, ha, e, ?_⟩
    rw [e, nI_toInt (by omega)] at ht
    split at ht <;> omega
theorem zpll (f : Int32) {i c : Nat} (hi : i ≤ 20) (hc : c ≤ 1) : ((f.toInt64 + (2 * nI i).toInt64) + (nI c).toInt64).toInt = f.toInt + ((2 * i + c : Nat) : Int) := by
  have h1 := Int32.toInt_lt f
  have h2 := Int32.le_toInt f
  rw [Int64.toInt_add, Int64.toInt_add, Int32.toInt_toInt64, Int32.toInt_toInt64, Int32.toInt_toInt64, show (2 : Int32) = nI 2 from rfl, pk_mul, nI_toInt (by omega), nI_toInt (by omega), Int.bmod_def, Int.bmod_def]
  omega
/-- what the machine finds of a pair -/
def zrsn (l lane : Int32) (b : Bool) : Int32 := if l = -4 then 1 else if l = lane then (if b = true then 0 else 2) else 3
theorem L_faultAt (σ : ZS) (k : Nat) (lane x : Int32) : zcall 56 [zA 2 k 0, zI lane, zI x] σ = some (zI (zrsn (σ 2 k 0 1) lane (zin2 x (nI 0) (σ 2 k 0 2 - 1))), σ) := by
  rw [E_Sheet_faultAt, L_is0, zbI_some, zif_b]
  unfold zrsn
  by_cases h1 : σ 2 k 0 1 = -4
  · rw [if_pos h1, if_pos h1]
  · rw [if_neg h1, if_neg h1]
    by_cases h2 : σ 2 k 0 1 = lane
    · rw [if_pos h2, if_pos h2]
      split <;> rfl
    · rw [if_neg h2, if_neg h2]
def zrs2 (l lane : Int32) (b c : Bool) : Int32 := if zrsn l lane b = 0 then zrsn l lane c else zrsn l lane b
theorem L_faultP (σ : ZS) (k : Nat) (lane x : Int32) : zcall 58 [zA 2 k 0, zI lane, zI x] σ = some (zI (zrs2 (σ 2 k 0 1) lane (zin2 x (nI 0) (σ 2 k 0 2 - 1)) (zin2 (x + 1) (nI 0) (σ 2 k 0 2 - 1))), σ) := by
  rw [E_Sheet_faultOfPair, L_faultAt, zbI_some, L_faultAt, zbI_some]
  unfold zrs2
  split <;> rfl
theorem L_readM83 {σ : ZS} {k n i c : Nat} (hk : k < 4) (hn : n ≤ 40) (hi : i ≤ 20) (hc : c ≤ 1) (lane f x4 x6 : Int32) (e10 : σ 3 0 10 k = nI n) :
    zev 203 83 [(0, zA 3 0 0), (1, zI (nI k)), (2, zI lane), (3, zI f), (4, zI x4), (5, zI 0), (6, zI x6), (7, zI (nI i)), (8, zI (nI c))] [] σ = zev 203 83 [(0, zA 3 0 0), (1, zI (nI k)), (2, zI lane), (3, zI f), (4, zI x4), (5, zI (zrsn (σ 3 0 9 k) lane (zin2 (f + nI (2 * i + c)) (nI 0) (nI n - 1)))), (6, zI x6), (7, zI (nI i)), (8, zI (nI (c + 1)))] [] σ := by
  have hl := zpll f hi hc
  rw [E_M_read_83 σ (nI k) lane f x4 0 x6 (nI i) (nI c), if_pos (show nI c < 2 from nI_lt (b := 2) (by omega) (by decide)), if_pos rfl, zck_nI hk (by decide), zck_nI hk (by decide), zck_nI hk (by decide), nI_clamp (by omega), nI_1, e10]
  unfold zrsn
  by_cases h1 : σ 3 0 9 k = -4
  · rw [if_pos h1, if_pos h1]
  · rw [if_neg h1, if_neg h1]
    by_cases h2 : σ 3 0 9 k = lane
    · rw [if_pos h2, if_pos h2]
      have c1 : lg_cmp ((f.toInt64 + (2 * nI i).toInt64) + (nI c).toInt64) 0 < 0 ↔ f.toInt + ((2 * i + c : Nat) : Int) < 0 := by
        rw [lg_cmp_lt, Int64.lt_iff_toInt_lt, hl]
        rfl
      have c2 : lg_cmp ((f.toInt64 + (2 * nI i).toInt64) + (nI c).toInt64) (nI n).toInt64 < 0 ↔ f.toInt + ((2 * i + c : Nat) : Int) < (n : Int) := by
        rw [lg_cmp_lt, Int64.lt_iff_toInt_lt, hl, Int32.toInt_toInt64, nI_toInt (by omega)]
      rcases zps_in f (k := 2 * i + c) (n := n) (by omega) hn with ⟨e, h⟩ | ⟨e, a, ha, -, h⟩
      · rw [e, show (if false = true then (0 : Int32) else 2) = 2 from rfl]
        by_cases h3 : f.toInt + ((2 * i + c : Nat) : Int) < 0
        · rw [if_pos (c1.mpr h3)]
        · rw [if_neg (fun z => h3 (c1.mp z)), if_neg (fun z => h ⟨by omega, c2.mp z⟩)]
      · rw [e, show (if true = true then (0 : Int32) else 2) = 0 from rfl, if_neg (fun z => by have := c1.mp z; omega), if_pos (c2.mpr (by omega))]
    · rw [if_neg h2, if_neg h2]
theorem L_readM83b {σ : ZS} {k n i : Nat} (hk : k < 4) (hn : n ≤ 40) (hi : i ≤ 20) (lane f x4 x6 : Int32) (e10 : σ 3 0 10 k = nI n) :
    zev 203 83 [(0, zA 3 0 0), (1, zI (nI k)), (2, zI lane), (3, zI f), (4, zI x4), (5, zI 0), (6, zI x6), (7, zI (nI i)), (8, zI 0)] [] σ = zev 203 170 [(0, zA 3 0 0), (1, zI (nI k)), (2, zI lane), (3, zI f), (4, zI x4), (5, zI (zrs2 (σ 3 0 9 k) lane (zin2 (f + nI (2 * i)) (nI 0) (nI n - 1)) (zin2 (f + nI (2 * i + 1)) (nI 0) (nI n - 1)))), (6, zI x6), (7, zI (nI i))] [] σ := by
  have s0 := L_readM83 (c := 0) hk hn hi (by omega) lane f x4 x6 e10
  rw [show 2 * i + 0 = 2 * i from rfl] at s0
  rw [show zev 203 83 [(0, zA 3 0 0), (1, zI (nI k)), (2, zI lane), (3, zI f), (4, zI x4), (5, zI 0), (6, zI x6), (7, zI (nI i)), (8, zI 0)] [] σ = _ from s0]
  unfold zrs2
  by_cases h : zrsn (σ 3 0 9 k) lane (zin2 (f + nI (2 * i)) (nI 0) (nI n - 1)) = 0
  · rw [h, L_readM83 (c := 1) hk hn hi (by omega) lane f x4 x6 e10]
    rw [if_pos rfl, E_M_read_83, if_neg (show ¬ nI 2 < 2 by decide)]
  · rw [if_neg h, E_M_read_83, if_neg h]
    split <;> rfl
/-- a move on both sides: refused, or done -/
theorem zmv_c {h : Nat → Nat → Int32} {R P N L S : Nat} (w : zWF h R P N L S) (x y : Int32) :
    ((∀ σ : ZS, zIR (σ 1 1) h → ∃ v, (v = -1 ∨ v = -2) ∧ zcall 12 [zA 1 1 0, zI x, zI y] σ = some (zI v, σ)) ∧ ∀ σ : ZS, zCx σ h R P N L S → ∃ v, (v = -1 ∨ v = -2) ∧ zcall 147 [zA 3 0 0, zI x, zI y] σ = some (zI v, σ)) ∨
    (∃ p, p < N ∧ zWF (zhu h 4 p y) R P N L S ∧ (∀ σ : ZS, zIR (σ 1 1) h → ∃ v, ¬ v = -1 ∧ ¬ v = -2 ∧ zcall 12 [zA 1 1 0, zI x, zI y] σ = some (zI v, zup σ 1 1 4 p y)) ∧ ∀ σ : ZS, zCx σ h R P N L S → ∃ v, ¬ v = -1 ∧ ¬ v = -2 ∧ zcall 147 [zA 3 0 0, zI x, zI y] σ = some (zI v, zup σ 3 0 1 (12 + 4 * p) y)) := by
  have hN := w.2.1.2.2.2.2.1
  have h12 := zRP12 w.2.1.2.1 w.2.1.2.2.2.1
  have hd := w.2.2.2.2.2.2.1.2
  have cN : ∀ σ : ZS, zIR (σ 1 1) h → σ 1 1 0 3 = nI N := fun σ b => (b.1 3 (by omega)).trans w.1.2.2.1
  have cM : ∀ σ : ZS, zIR (σ 1 1) h → σ 1 1 0 0 * σ 1 1 0 1 = nI (R * P) := fun σ b => by rw [b.1 0 (by omega), b.1 1 (by omega), w.1.1, w.1.2.1, pk_mul]
  have mM : ∀ σ : ZS, zCx σ h R P N L S → σ 3 0 0 3 * σ 3 0 0 4 = nI (R * P) := fun σ c => by rw [c.2.2.1, c.2.2.2.1, pk_mul]
  have c4 : ∀ σ : ZS, zIR (σ 1 1) h → ∀ q, q < N → σ 1 1 4 q = h 4 q := fun σ b q hq => (b.2.2.1 q (by omega)).1
  have m4 : ∀ σ : ZS, zCx σ h R P N L S → ∀ q, q < N → σ 3 0 1 (12 + 4 * q) = h 4 q := fun σ c q hq => (c.2.1.2.1 q hq).1
  have was : ∀ q, q < N → ¬ h 4 q = -1 ∧ ¬ h 4 q = -2 := fun q hq => by
    rcases w.2.2.2.2.2.2.1.1 q hq with e | ⟨s, hs, e⟩
    · rw [e]; decide
    · rw [e]; exact ⟨nI_neg (m := 1) (by omega) (by decide) (by decide), nI_neg (m := 2) (by omega) (by decide) (by decide)⟩
  rcases zin2_c x (n := N) (by omega) with h1 | ⟨p, hp, rfl, h1⟩
  · exact Or.inl ⟨fun σ b => ⟨-1, Or.inl rfl, mv_bad1 (cN σ b) y h1⟩, fun σ c => ⟨-1, Or.inl rfl, ms_bad1 c.2.2.2.2.1 y h1⟩⟩
  · by_cases hy : y = -4
    · subst hy
      refine Or.inr ⟨p, hp, zWF_seat w (Or.inl rfl) (Or.inl rfl), fun σ b => ⟨h 4 p, (was p hp).1, (was p hp).2, ?_⟩, fun σ c => ⟨h 4 p, (was p hp).1, (was p hp).2, ?_⟩⟩
      · rw [mv_away (cN σ b) hN hp, c4 σ b p hp]
      · rw [ms_away c.2.2.2.2.1 hN hp, m4 σ c p hp]
    · rcases zin2_c y (n := R * P) (by omega) with h2 | ⟨s, hs, rfl, h2⟩
      · exact Or.inl ⟨fun σ b => ⟨-1, Or.inl rfl, mv_bad2 (cN σ b) (cM σ b) h1 hy h2⟩, fun σ c => ⟨-1, Or.inl rfl, ms_bad2 c.2.2.2.2.1 (mM σ c) h1 hy h2⟩⟩
      · by_cases ho : ∃ q, q < N ∧ q ≠ p ∧ h 4 q = nI s
        · obtain ⟨q, hq, hqp, e⟩ := ho
          refine Or.inl ⟨fun σ b => ⟨-2, Or.inr rfl, mv_occ (cN σ b) hN (cM σ b) h12 (fun a ha b' hb hab => ?_) hp hs hq hqp ((c4 σ b q hq).trans e)⟩, fun σ c => ⟨-2, Or.inr rfl, ms_occ c.2.2.2.2.1 hN (mM σ c) h12 (fun a ha b' hb hab => ?_) hp hs hq hqp ((m4 σ c q hq).trans e)⟩⟩
          · rw [c4 σ b a ha, c4 σ b b' hb]; exact hd a ha b' hb hab
          · rw [m4 σ c a ha, m4 σ c b' hb]; exact hd a ha b' hb hab
        · have hf : ∀ q, q < N → q ≠ p → h 4 q ≠ nI s := fun q hq hqp e => ho ⟨q, hq, hqp, e⟩
          refine Or.inr ⟨p, hp, zWF_seat w (Or.inr ⟨s, hs, rfl⟩) (Or.inr hf), fun σ b => ⟨h 4 p, (was p hp).1, (was p hp).2, ?_⟩, fun σ c => ⟨h 4 p, (was p hp).1, (was p hp).2, ?_⟩⟩
          · rw [mv_free (cN σ b) hN (cM σ b) h12 hp hs (fun q hq hqp => by rw [c4 σ b q hq]; exact hf q hq hqp), c4 σ b p hp]
          · rw [ms_free c.2.2.2.2.1 hN (mM σ c) h12 hp hs (fun q hq hqp => by rw [m4 σ c q hq]; exact hf q hq hqp), m4 σ c p hp]
/-- what the reference holds while it reads: a0 its row as it was -/
def zRM (σ : ZS) (h : Nat → Nat → Int32) (a0 : Nat → Int32) (cl : Nat → Int32) (l : Int32) (k n R P N L S : Nat) : Prop :=
  zCx σ h R P N L S ∧ σ 3 0 9 k = l ∧ σ 3 0 10 k = nI n ∧ (∀ q, q < 40 → σ 3 0 11 (40 * k + q) = cl q) ∧ (∀ q, (∀ j, j < 4 → q ≠ 12 + 4 * j) → σ 3 0 1 q = a0 q) ∧ ∀ j, j < 4 → σ 3 0 12 j = a0 (12 + 4 * j)
theorem L_readM226 {a0 : Nat → Int32} (x7 : Int32) : ∀ (d j : Nat) (σ : ZS), j + d = 4 → (∀ q, (∀ i, j ≤ i → i < 4 → q ≠ 12 + 4 * i) → σ 3 0 1 q = a0 q) → (∀ i, i < 4 → σ 3 0 12 i = a0 (12 + 4 * i)) →
    ∃ τ, zev 203 226 [(0, zA 3 0 0), (7, zI x7), (10, zI (nI j))] [] σ = some (zI ((-20) - x7), τ) ∧ zfrm (fun c g j => c = 3 ∧ g = 0 ∧ j = 1) σ τ ∧ τ 3 0 1 = a0
  | 0, j, σ, hj, h1, h2 => by
    obtain rfl : j = 4 := by omega
    exact ⟨σ, by rw [E_M_read_226, if_neg (show ¬ nI 4 < 4 by decide)], zfrm_r, funext fun q => h1 q fun i _ _ => by omega⟩
  | d + 1, j, σ, hj, h1, h2 => by
    obtain ⟨τ, t1, t2, t3⟩ := L_readM226 (a0 := a0) x7 d (j + 1) (zup σ 3 0 1 (12 + 4 * j) (a0 (12 + 4 * j))) (by omega) (fun q hq => by
      rw [zup_m]
      by_cases e : q = 12 + 4 * j
      · rw [e, zru_s]
      · rw [zru_o e]
        refine h1 q fun i hi hi4 => ?_
        by_cases ei : i = j
        · rw [ei]; exact e
        · exact hq i (by omega) hi4) (fun i hi => by rw [zup_o (by decide)]; exact h2 i hi)
    refine ⟨τ, ?_, zfrm_t (zfrm_up zfrm_r ⟨rfl, rfl, rfl⟩) t2, t3⟩
    rw [E_M_read_226, if_pos (show nI j < 4 from nI_lt (b := 4) (by omega) (by decide)), zck_nI (by omega) (by decide), show (12 + (4 * nI j)) + (0 : Int32) = nI (12 + 4 * j) from zidx 0, zck_nI (by omega) (by decide), nI_clamp (by omega), nI_clamp (by omega), h2 j (by omega), nI_1]
    exact t1
theorem L_readM26 (x1 x2 x3 x4 : Int32) : ∀ (d j : Nat) (σ : ZS), j + d = 4 → (∀ i, i < j → σ 3 0 12 i = σ 3 0 1 (12 + 4 * i)) →
    ∃ τ, zev 203 26 [(0, zA 3 0 0), (1, zI x1), (2, zI x2), (3, zI x3), (4, zI x4), (5, zI (nI j))] [] σ = zev 203 68 [(0, zA 3 0 0), (1, zI x1), (2, zI x2), (3, zI x3), (4, zI x4), (5, zI 0), (6, zI 0), (7, zI 0)] [] τ ∧ zfrm (fun c g j => c = 3 ∧ g = 0 ∧ j = 12) σ τ ∧ ∀ i, i < 4 → τ 3 0 12 i = σ 3 0 1 (12 + 4 * i)
  | 0, j, σ, hj, h1 => by
    obtain rfl : j = 4 := by omega
    exact ⟨σ, by rw [E_M_read_26, if_neg (show ¬ nI 4 < 4 by decide)], zfrm_r, h1⟩
  | d + 1, j, σ, hj, h1 => by
    obtain ⟨τ, t1, t2, t3⟩ := L_readM26 x1 x2 x3 x4 d (j + 1) (zup σ 3 0 12 j (σ 3 0 1 (12 + 4 * j))) (by omega) (fun i hi => by
      rw [zup_m, zup_o (by decide)]
      by_cases e : i = j
      · rw [e, zru_s]
      · rw [zru_o e]; exact h1 i (by omega))
    refine ⟨τ, ?_, zfrm_t (zfrm_up zfrm_r ⟨rfl, rfl, rfl⟩) t2, fun i hi => by rw [t3 i hi, zup_o (by decide)]⟩
    rw [E_M_read_26, if_pos (show nI j < 4 from nI_lt (b := 4) (by omega) (by decide)), show (12 + (4 * nI j)) + (0 : Int32) = nI (12 + 4 * j) from zidx 0, zck_nI (by omega) (by decide), zck_nI (by omega) (by decide), nI_clamp (by omega), nI_clamp (by omega), nI_1]
    exact t1
theorem L_back0 (σ : ZS) : ∃ τ, zcall 7 [zA 1 0 0, zA 1 1 0] σ = some (zI 0, τ) ∧ zfrm (zHG 0) σ τ ∧ zIR (τ 1 0) (σ 1 1) := L_copy (by decide)
def zR1 (c g j : Nat) : Prop := (c = 1 ∧ (g = 0 ∨ g = 1)) ∨ (c = 0 ∧ g = 0 ∧ j = 0)
/-- how the read ends: refused, or taken -/
def zRE (σ τ : ZS) (v : Int32) (ref : ZS → ZR) (h h0 : Nat → Nat → Int32) (a0 cl : Nat → Int32) (l : Int32) (k n R P N L S : Nat) : Prop :=
  (zfrm (zHG 1) σ τ ∧ ∀ υ, zRM υ h a0 cl l k n R P N L S → ∃ ω, ref υ = some (zI v, ω) ∧ zfrm (fun c g j => c = 3 ∧ g = 0 ∧ j = 1) υ ω ∧ ω 3 0 1 = a0) ∨
  ∃ h' r, zWF h' R P N L S ∧ (∀ j, j ≠ 4 → h' j = h0 j) ∧ zIR (τ 1 0) h' ∧ zfrm zR1 σ τ ∧ τ 0 0 0 = zru (σ 0 0 0) 10 r ∧
    ∀ υ, zRM υ h a0 cl l k n R P N L S → ∃ ω, ref υ = some (zI v, ω) ∧ zfrm (fun c g j => c = 3 ∧ g = 0 ∧ (j = 0 ∨ j = 1)) υ ω ∧ ω 3 0 0 = zru (υ 3 0 0) 30 r ∧ zrel h' (ω 3 0 1) N L S ∧ ∀ q, 54 ≤ q → ω 3 0 1 q = a0 q
theorem L_readEnd {σ : ZS} {h h0 : Nat → Nat → Int32} {a0 cl : Nat → Int32} {l : Int32} {k n R P N L S : Nat} (w : zWF h R P N L S) (b : zIR (σ 1 1) h) (e : ∀ j, j ≠ 4 → h j = h0 j) (r v : Int32) {ref : ZS → ZR} (hr : ∀ υ, ref υ = some (zI v, zup υ 3 0 0 30 r)) :
    ∃ τ, zbV (zcall 7 [zA 1 0 0, zA 1 1 0] σ) (fun σ36 => let σ37 : ZS := zup σ36 0 0 0 10 r; some (zI v, σ37)) = some (zI v, τ) ∧ zRE σ τ v ref h h0 a0 cl l k n R P N L S := by
  obtain ⟨τ, t1, t2, t3⟩ := L_back0 σ
  refine ⟨zup τ 0 0 0 10 r, by rw [t1, zbV_some], Or.inr ⟨h, r, w, e, ?_, ?_, ?_, fun υ m => ⟨zup υ 3 0 0 30 r, hr υ, zfrm_up zfrm_r ⟨rfl, rfl, Or.inl rfl⟩, zup_m, ?_, fun q hq => ?_⟩⟩⟩
  · rw [show zup τ 0 0 0 10 r 1 0 = τ 1 0 from funext fun j => zup_o (by omega)]
    exact zIR_t t3 b
  · exact zfrm_up (zfrm_m (fun c g j h => Or.inl ⟨h.1, Or.inl h.2⟩) t2) (Or.inr ⟨rfl, rfl, rfl⟩)
  · rw [zup_m, t2 0 0 0 (by simp [zHG])]
  · rw [zup_o (by decide)]; exact m.1.2.1
  · rw [zup_o (by decide)]; exact m.2.2.2.2.1 q fun j hj => by omega
theorem L_read {k m n R P N L S : Nat} (hk : k < 4) (hm : m ≤ 20) (hn : n ≤ 40) (lane f l : Int32) {h0 : Nat → Nat → Int32} {a0 cl : Nat → Int32} : ∀ (d i : Nat) (x7 : Int32) (h : Nat → Nat → Int32) (σ : ZS), i + d = m → zWF h R P N L S → zIR (σ 1 1) h → (∀ j, j ≠ 4 → h j = h0 j) → σ 2 k 0 1 = l → σ 2 k 0 2 = nI n → (∀ q, q < 40 → σ 2 k 1 q = cl q) →
    ∃ v τ, zev 113 59 [(0, zA 0 0 0), (2, zI lane), (3, zI f), (4, zI (nI m)), (5, zA 2 k 0), (6, zI 0), (7, zI x7), (8, zI (nI i))] [] σ = some (zI v, τ) ∧ zRE σ τ v (fun υ => zev 203 68 [(0, zA 3 0 0), (1, zI (nI k)), (2, zI lane), (3, zI f), (4, zI (nI m)), (5, zI 0), (6, zI x7), (7, zI (nI i))] [] υ) h h0 a0 cl l k n R P N L S
  | 0, i, x7, h, σ, hi, w, b, e, s1, s2, s3 => by
    have hx : ¬ nI i < nI m := nI_nlt (by omega) (by omega)
    obtain ⟨τ, t1, t2⟩ := L_readEnd (a0 := a0) (cl := cl) (l := l) (k := k) (n := n) w b e 0 x7 (ref := fun υ => zev 203 68 [(0, zA 3 0 0), (1, zI (nI k)), (2, zI lane), (3, zI f), (4, zI (nI m)), (5, zI 0), (6, zI x7), (7, zI (nI i))] [] υ) (fun υ => by rw [E_M_read_68, if_neg hx])
    exact ⟨x7, τ, by rw [E_S_read_59, if_neg hx]; exact t1, t2⟩
  | d + 1, i, x7, h, σ, hi, w, b, e, s1, s2, s3 => by
    have hx : nI i < nI m := nI_lt (by omega) (by omega)
    have h2i : (2 : Int32) * nI i = nI (2 * i) := by rw [show (2 : Int32) = nI 2 from rfl, pk_mul]
    have h2j : f + nI (2 * i) + 1 = f + nI (2 * i + 1) := by rw [Int32.add_assoc, nI_1]
    obtain ⟨r, hr⟩ : ∃ r, r = zrs2 l lane (zin2 (f + nI (2 * i)) (nI 0) (nI n - 1)) (zin2 (f + nI (2 * i + 1)) (nI 0) (nI n - 1)) := ⟨_, rfl⟩
    have hC : zcall 58 [zA 2 k 0, zI lane, zI (f + 2 * nI i)] σ = some (zI r, σ) := by
      rw [L_faultP, h2i, h2j, s1, s2, hr]
    have hM : ∀ υ, zRM υ h a0 cl l k n R P N L S → zev 203 68 [(0, zA 3 0 0), (1, zI (nI k)), (2, zI lane), (3, zI f), (4, zI (nI m)), (5, zI 0), (6, zI x7), (7, zI (nI i))] [] υ = zev 203 170 [(0, zA 3 0 0), (1, zI (nI k)), (2, zI lane), (3, zI f), (4, zI (nI m)), (5, zI r), (6, zI x7), (7, zI (nI i))] [] υ := by
      intro υ u
      rw [E_M_read_68, if_pos hx, if_pos rfl, L_readM83b hk hn (by omega) lane f (nI m) x7 u.2.2.1, u.2.1, hr]
    by_cases hr0 : r = 0
    · -- whole: both cells are there
      have hz : l ≠ -4 ∧ l = lane ∧ zin2 (f + nI (2 * i)) (nI 0) (nI n - 1) = true ∧ zin2 (f + nI (2 * i + 1)) (nI 0) (nI n - 1) = true := by
        rw [hr0] at hr
        unfold zrs2 zrsn at hr
        by_cases q1 : l = -4
        · rw [if_pos q1, if_pos q1] at hr; exact absurd hr (by decide)
        · rw [if_neg q1, if_neg q1] at hr
          by_cases q2 : l = lane
          · rw [if_pos q2, if_pos q2] at hr
            refine ⟨q1, q2, ?_⟩
            revert hr
            cases zin2 (f + nI (2 * i)) (nI 0) (nI n - 1) <;> cases zin2 (f + nI (2 * i + 1)) (nI 0) (nI n - 1) <;> decide
          · rw [if_neg q2, if_neg q2] at hr; exact absurd hr (by decide)
      obtain ⟨-, -, z1, z2⟩ := hz
      obtain ⟨a, ha, ea⟩ : ∃ a, a + 1 < n ∧ f + nI (2 * i) = nI a := by
        rcases zps_in f (k := 2 * i) (n := n) (by omega) hn with ⟨q, -⟩ | ⟨-, a, ha, ea, et⟩
        · rw [z1] at q; exact absurd q (by decide)
        · rcases zps_in f (k := 2 * i + 1) (n := n) (by omega) hn with ⟨q, -⟩ | ⟨-, a2, ha2, ea2, et2⟩
          · rw [z2] at q; exact absurd q (by decide)
          · exact ⟨a, by omega, ea⟩
      have ea' : f + 2 * nI i = nI a := by rw [h2i]; exact ea
      have ic : ((40 * nI k) + f) + (2 * nI i) = nI (40 * k + a) := by
        rw [Int32.add_assoc, ea', show (40 : Int32) = nI 40 from rfl, pk_mul, nI_add]
      have C1 : ∀ {z : ZR} {F : Int32 → Int32 → ZS → ZR}, zbI (zcall 12 [zA 1 1 0, zI (cl a), zI (cl (a + 1))] σ) (F r) = z → zbI (zcall 58 [zA 2 k 0, zI lane, zI (f + (2 * nI i))] σ) (fun x29 σ28 => if x29 = 0 then (zck (f + (2 * nI i)) 40 (zck ((f + (2 * nI i)) + 1) 40 (zbI (zcall 12 [zA 1 1 0, zI (σ28 2 k 1 (f + (2 * nI i)).toNatClampNeg), zI (σ28 2 k 1 ((f + (2 * nI i)) + 1).toNatClampNeg)] σ28) (F x29)))) else (zev 113 59 [(0, zA 0 0 0), (2, zI lane), (3, zI f), (4, zI (nI m)), (5, zA 2 k 0), (6, zI x29), (7, zI x7), (8, zI (nI i + 1))] [] σ28)) = z := by
        intro z F hz
        rw [hC, zbI_some, if_pos hr0, ea', nI_1, zck_nI (by omega) (by decide), zck_nI (by omega) (by decide), nI_clamp (by omega), nI_clamp (by omega), s3 a (by omega), s3 (a + 1) (by omega)]
        exact hz
      have M1 : ∀ υ, zRM υ h a0 cl l k n R P N L S → zev 203 68 [(0, zA 3 0 0), (1, zI (nI k)), (2, zI lane), (3, zI f), (4, zI (nI m)), (5, zI 0), (6, zI x7), (7, zI (nI i))] [] υ = zbI (zcall 147 [zA 3 0 0, zI (cl a), zI (cl (a + 1))] υ) (fun x29 σ28 => if x29 = (-1) then (zev 203 226 [(0, zA 3 0 0), (7, zI (nI i)), (10, zI 0)] [] σ28) else (if x29 = (-2) then (zev 203 226 [(0, zA 3 0 0), (7, zI (nI i)), (10, zI 0)] [] σ28) else (zev 203 68 [(0, zA 3 0 0), (1, zI (nI k)), (2, zI lane), (3, zI f), (4, zI (nI m)), (5, zI 0), (6, zI (x7 + 1)), (7, zI (nI i + 1))] [] σ28))) := by
        intro υ u
        rw [hM υ u, hr0, E_M_read_170, if_pos rfl, ic, nI_1, zck_nI (by omega) (by decide), zck_nI (by omega) (by decide), nI_clamp (by omega), nI_clamp (by omega), u.2.2.2.1 a (by omega), Nat.add_assoc, u.2.2.2.1 (a + 1) (by omega)]
      rcases zmv_c w (cl a) (cl (a + 1)) with ⟨q1, q2⟩ | ⟨p, hp, w2, q1, q2⟩
      · obtain ⟨v, v1, v2⟩ := q1 σ b
        refine ⟨(-20) - nI i, σ, ?_, Or.inl ⟨zfrm_r, fun υ u => ?_⟩⟩
        · rw [E_S_read_59, if_pos hx, if_pos rfl]
          refine C1 ?_
          rw [v2, zbI_some, E_S_isRefused]
          rcases v1 with rfl | rfl
          · rw [if_pos rfl, zbI_some, if_neg (by decide)]
          · rw [if_neg (by decide), if_pos rfl, zbI_some, if_neg (by decide)]
        · obtain ⟨y, y1, y2⟩ := q2 υ u.1
          obtain ⟨ω, o1, o2, o3⟩ := L_readM226 (a0 := a0) (nI i) 4 0 υ (by omega) (fun q hq => u.2.2.2.2.1 q fun j hj => hq j (by omega) hj) u.2.2.2.2.2
          refine ⟨ω, ?_, o2, o3⟩
          dsimp only
          rw [M1 υ u, y2, zbI_some]
          rcases y1 with rfl | rfl
          · rw [if_pos rfl]; exact o1
          · rw [if_neg (by decide), if_pos rfl]; exact o1
      · obtain ⟨v, v1, v2, v3⟩ := q1 σ b
        have hN := w.2.1.2.2.2.2.1
        have hL := w.2.1.2.2.2.2.2.1
        have b2 : zIR (zup σ 1 1 4 p (cl (a + 1)) 1 1) (zhu h 4 p (cl (a + 1))) := by rw [zup_h]; exact zIR_u b
        have e2 : ∀ j, j ≠ 4 → zhu h 4 p (cl (a + 1)) j = h0 j := fun j hj => by
          rw [← e j hj]
          exact funext fun q => zhu_n (by omega)
        have k0 : ∀ j, zup σ 1 1 4 p (cl (a + 1)) 2 k j = σ 2 k j := fun j => zup_o (by omega)
        obtain ⟨v', τ, t1, t2⟩ := L_read (h0 := h0) (a0 := a0) (cl := cl) hk hm hn lane f l d (i + 1) (x7 + 1) (zhu h 4 p (cl (a + 1))) (zup σ 1 1 4 p (cl (a + 1))) (by omega) w2 b2 e2 (by rw [k0]; exact s1) (by rw [k0]; exact s2) (fun q hq => by rw [k0]; exact s3 q hq)
        have st : ∀ υ, zRM υ h a0 cl l k n R P N L S → zRM (zup υ 3 0 1 (12 + 4 * p) (cl (a + 1))) (zhu h 4 p (cl (a + 1))) a0 cl l k n R P N L S := by
          intro υ u
          obtain ⟨u1, u2, u3, u4, u5, u6⟩ := u
          obtain ⟨c1, c2, c3, c4, c5, c6, c7⟩ := u1
          refine ⟨⟨w2, ?_, ?_, ?_, ?_, ?_, fun j hj => ?_⟩, ?_, ?_, fun q hq => ?_, fun q hq => ?_, fun j hj => ?_⟩
          · rw [zup_m]; exact zrel_p (d := 0) (by omega) hp hN c2 hL
          · rw [zup_o (by decide)]; exact c3
          · rw [zup_o (by decide)]; exact c4
          · rw [zup_o (by decide)]; exact c5
          · rw [zup_o (by decide)]; exact c6
          · rw [zup_o (by decide), zhu_n (by omega)]; exact c7 j hj
          · rw [zup_o (by decide)]; exact u2
          · rw [zup_o (by decide)]; exact u3
          · rw [zup_o (by decide)]; exact u4 q hq
          · rw [zup_m, zru_o (hq p (by omega))]; exact u5 q hq
          · rw [zup_o (by decide)]; exact u6 j hj
        have rf : ∀ υ, zRM υ h a0 cl l k n R P N L S → zev 203 68 [(0, zA 3 0 0), (1, zI (nI k)), (2, zI lane), (3, zI f), (4, zI (nI m)), (5, zI 0), (6, zI x7), (7, zI (nI i))] [] υ = zev 203 68 [(0, zA 3 0 0), (1, zI (nI k)), (2, zI lane), (3, zI f), (4, zI (nI m)), (5, zI 0), (6, zI (x7 + 1)), (7, zI (nI (i + 1)))] [] (zup υ 3 0 1 (12 + 4 * p) (cl (a + 1))) := by
          intro υ u
          obtain ⟨y, y1, y2, y3⟩ := q2 υ u.1
          rw [M1 υ u, y3, zbI_some, if_neg y1, if_neg y2, nI_1]
        refine ⟨v', τ, ?_, ?_⟩
        · rw [E_S_read_59, if_pos hx, if_pos rfl]
          refine C1 ?_
          rw [v3, zbI_some, E_S_isRefused, if_neg v1, if_neg v2, zbI_some, if_pos rfl, hr0, nI_1]
          exact t1
        · have f1 : zfrm (zHG 1) σ (zup σ 1 1 4 p (cl (a + 1))) := zfrm_up zfrm_r ⟨rfl, rfl⟩
          have f2 : ∀ υ, zfrm (fun c g j => c = 3 ∧ g = 0 ∧ j = 1) υ (zup υ 3 0 1 (12 + 4 * p) (cl (a + 1))) := fun υ => zfrm_up zfrm_r ⟨rfl, rfl, rfl⟩
          rcases t2 with ⟨g1, g2⟩ | ⟨h', r', g1, g2, g3, g4, g5, g6⟩
          · refine Or.inl ⟨zfrm_t f1 g1, fun υ u => ?_⟩
            obtain ⟨ω, o1, o2, o3⟩ := g2 _ (st υ u)
            exact ⟨ω, (rf υ u).trans o1, zfrm_t (f2 υ) o2, o3⟩
          · refine Or.inr ⟨h', r', g1, g2, g3, zfrm_t (zfrm_m (fun c g j h => Or.inl ⟨h.1, Or.inr h.2⟩) f1) g4, ?_, fun υ u => ?_⟩
            · rw [g5, zup_o (by decide)]
            · obtain ⟨ω, o1, o2, o3, o4, o5⟩ := g6 _ (st υ u)
              refine ⟨ω, (rf υ u).trans o1, zfrm_t (zfrm_m (fun c g j h => ⟨h.1, h.2.1, Or.inr h.2.2⟩) (f2 υ)) o2, ?_, o4, o5⟩
              rw [o3, zup_o (by decide)]
    · -- a fault: the next round ends it
      obtain ⟨τ, t1, t2⟩ := L_readEnd (a0 := a0) (cl := cl) (l := l) (k := k) (n := n) w b e r x7 (ref := fun υ => zev 203 170 [(0, zA 3 0 0), (1, zI (nI k)), (2, zI lane), (3, zI f), (4, zI (nI m)), (5, zI r), (6, zI x7), (7, zI (nI i))] [] υ) (fun υ => by
        rw [E_M_read_170, if_neg hr0, E_M_read_68, if_neg hr0]
        split <;> rfl)
      refine ⟨x7, τ, ?_, ?_⟩
      · rw [E_S_read_59, if_pos hx, if_pos rfl, hC, zbI_some, if_neg hr0, E_S_read_59, if_neg hr0]
        split <;> exact t1
      · rcases t2 with ⟨g1, g2⟩ | ⟨h', r', g1, g2, g3, g4, g5, g6⟩
        · exact Or.inl ⟨g1, fun υ u => by
            obtain ⟨ω, o1, o2⟩ := g2 υ u
            exact ⟨ω, (hM υ u).trans o1, o2⟩⟩
        · exact Or.inr ⟨h', r', g1, g2, g3, g4, g5, fun υ u => by
            obtain ⟨ω, o1, o2⟩ := g6 υ u
            exact ⟨ω, (hM υ u).trans o1, o2⟩⟩
def zR2 (c g j : Nat) : Prop := zHX c g j ∨ zScr c g j ∨ (c = 0 ∧ g = 0 ∧ j = 0) ∨ (c = 3 ∧ g = 0 ∧ j = 0)
theorem zInv_r {σ τ : ZS} {R P N L S S' : Nat} (a3 : zMM σ L) (a4 : zIm σ R P N L) (a5 : zSh σ) (a6 : zTp σ) (a8 : zKo σ) (hf : zfrm zR2 σ τ) (h0 : ∀ k, k ≠ 30 → τ 3 0 0 k = σ 3 0 0 k) (hF : zFa τ) (a1 : zWF (σ 1 0) R P N L S)
    (h1 : zWF (τ 1 0) R P N L S') (h2 : zrel (τ 1 0) (τ 3 0 1) N L S') (h3 : ∀ i, i < L → τ 1 0 8 i = σ 1 0 8 i) (h4 : ∀ k, 54 ≤ k → τ 3 0 1 k = σ 3 0 1 k) : zInv τ := by
  have e3 : τ 1 3 = σ 1 3 := funext fun j => hf 1 3 j (by simp [zR2, zHX, zScr, zScC])
  have e4 : τ 1 4 = σ 1 4 := funext fun j => hf 1 4 j (by simp [zR2, zHX, zScr, zScC])
  have e2 : τ 2 = σ 2 := funext fun g => funext fun j => hf 2 g j (by simp [zR2, zHX, zScr, zScC])
  have c2 : τ 0 0 2 = σ 0 0 2 := hf 0 0 2 (by simp [zR2, zHX, zScr, zScC])
  have c5 : τ 0 0 5 = σ 0 0 5 := hf 0 0 5 (by simp [zR2, zHX, zScr, zScC])
  have c6 : τ 0 0 6 = σ 0 0 6 := hf 0 0 6 (by simp [zR2, zHX, zScr, zScC])
  have m3 : τ 3 0 3 = σ 3 0 3 := hf 3 0 3 (by simp [zR2, zHX, zScr, zScC])
  have m4 : τ 3 0 4 = σ 3 0 4 := hf 3 0 4 (by simp [zR2, zHX, zScr, zScC])
  have m7 : τ 3 0 7 = σ 3 0 7 := hf 3 0 7 (by simp [zR2, zHX, zScr, zScC])
  have m9 : τ 3 0 9 = σ 3 0 9 := hf 3 0 9 (by simp [zR2, zHX, zScr, zScC])
  have m10 : τ 3 0 10 = σ 3 0 10 := hf 3 0 10 (by simp [zR2, zHX, zScr, zScC])
  have m11 : τ 3 0 11 = σ 3 0 11 := hf 3 0 11 (by simp [zR2, zHX, zScr, zScC])
  have k5 : τ 5 = σ 5 := funext fun g => funext fun j => hf 5 g j (by simp [zR2, zHX, zScr, zScC])
  have k6 : τ 6 = σ 6 := funext fun g => funext fun j => hf 6 g j (by simp [zR2, zHX, zScr, zScC])
  refine ⟨R, P, N, L, S', h1, h2, ?_, ?_, ?_, ?_, hF, ?_⟩
  · obtain ⟨b1, b2, b3, b4, b5⟩ := a3
    obtain ⟨⟨r1, r2, r3, r4, -⟩, -⟩ := a1
    obtain ⟨⟨q1, q2, q3, q4, -⟩, -⟩ := h1
    unfold zMM
    rw [h0 3 (by decide), h0 4 (by decide), h0 5 (by decide), h0 6 (by decide), m4]
    exact ⟨by rw [b1, r1, q1], by rw [b2, r2, q2], by rw [b3, r3, q3], by rw [b4, r4, q4], fun i hi => by rw [b5 i hi, h3 i hi]⟩
  · intro k hk
    have hk2 : τ 1 (3 + k) = σ 1 (3 + k) := by
      rcases (by omega : k = 0 ∨ k = 1) with rfl | rfl
      · exact e3
      · exact e4
    obtain ⟨b1, b2, b3⟩ := a4 k hk
    rw [m3, c2, hk2]
    refine ⟨b1, b2, fun hz => ?_⟩
    obtain ⟨⟨S2, w1, w2⟩, w3⟩ := b3 hz
    refine ⟨⟨S2, w1, ?_⟩, fun i hi => by rw [h3 i hi]; exact w3 i hi⟩
    have he : (fun j => τ 3 0 1 (54 * (k + 1) + j)) = fun j => σ 3 0 1 (54 * (k + 1) + j) := funext fun j => h4 _ (by omega)
    rw [he]
    exact w2
  · intro k hk
    rw [e2, m9, m10, m11]
    exact a5 k hk
  · unfold zTp
    rw [c5, c6, h0 19 (by decide), m7]
    exact a6
  · unfold zKo
    rw [k5, k6]
    exact a8
theorem Q_read {σ : ZS} (hi : zInv σ) (x y z u : Int32) : zPair (zcall 113 [zA 0 0 0, zI x, zI y, zI z, zI u]) (zcall 203 [zA 3 0 0, zI x, zI y, zI z, zI u]) σ := by
  obtain ⟨R, P, N, L, S, a1, a2, a3, a4, a5, a6, a7, a8⟩ := id hi
  unfold zPair
  simp only [E_S_read, E_M_read, L_is0_3, L_is0_2, L_is0_20, L_in0_20, L_isSheet, zbI_some, zif_b]
  rcases zin2_u x 3 with h1 | ⟨k, hk, rfl, h1⟩
  · rw [h1]
    exact ⟨-1, σ, σ, rfl, rfl, hi⟩
  · rw [h1]
    cases h2 : zin2 y (nI 0) (nI 2) with
    | false => exact ⟨-1, σ, σ, rfl, rfl, hi⟩
    | true =>
      rcases zin2_u u 20 with h3 | ⟨m, hm, rfl, h3⟩
      · rw [h3]
        exact ⟨-1, σ, σ, rfl, rfl, hi⟩
      · rw [h3]
        have k4 : k < 4 := by omega
        obtain ⟨⟨b1, n, hn, b2⟩, b3, b4, b5⟩ := a5 k k4
        obtain ⟨σ1, t1, t2, t3⟩ := L_trial σ
        have o1 : ∀ c g j, ¬ zHG 1 c g j → σ1 c g j = σ c g j := t2
        obtain ⟨v, τ, r1, r2⟩ := L_read (cl := σ 2 k 1) (h0 := σ 1 0) (a0 := σ 3 0 1) (l := σ 2 k 0 1) k4 hm hn y z m 0 0 (σ 1 0) σ1 (by omega) a1 t3 (fun _ _ => rfl) (by rw [o1 2 k 0 (by simp [zHG])]) (by rw [o1 2 k 0 (by simp [zHG])]; exact b2) (fun q _ => by rw [o1 2 k 1 (by simp [zHG])])
        have hF : zfrm (fun c g j => (c = 1 ∧ (g = 0 ∨ g = 1)) ∨ (c = 0 ∧ g = 0 ∧ j = 0)) σ τ := by
          refine zfrm_t (zfrm_m (fun c g j h => Or.inl ⟨h.1, Or.inr h.2⟩) t2) ?_
          rcases r2 with ⟨g1, -⟩ | ⟨h', r', -, -, -, g4, -⟩
          · exact zfrm_m (fun c g j h => Or.inl ⟨h.1, Or.inr h.2⟩) g1
          · exact g4
        obtain ⟨υ, v1, v2, v3⟩ := L_readM26 (nI k) y z (nI m) 4 0 τ (by omega) (fun i hi => by omega)
        have e3 : ∀ g j, τ 3 g j = σ 3 g j := fun g j => hF 3 g j (by omega)
        have hRM : zRM υ (σ 1 0) (σ 3 0 1) (σ 2 k 1) (σ 2 k 0 1) k n R P N L S := by
          obtain ⟨-, -, q3, q4, q5, q6, q7⟩ := zCx_of a1 a2 a3
          refine ⟨⟨a1, ?_, ?_, ?_, ?_, ?_, fun j hj => ?_⟩, ?_, ?_, fun q hq => ?_, fun q hq => ?_, fun j hj => ?_⟩
          · rw [v2 3 0 1 (by decide), e3]; exact a2
          · rw [v2 3 0 0 (by decide), e3]; exact q3
          · rw [v2 3 0 0 (by decide), e3]; exact q4
          · rw [v2 3 0 0 (by decide), e3]; exact q5
          · rw [v2 3 0 0 (by decide), e3]; exact q6
          · rw [v2 3 0 4 (by decide), e3]; exact q7 j hj
          · rw [v2 3 0 9 (by decide), e3]; exact b3
          · rw [v2 3 0 10 (by decide), e3, b4]; exact b2
          · rw [v2 3 0 11 (by decide), e3]; exact b5 q hq
          · rw [v2 3 0 1 (by decide), e3]
          · rw [v3 j hj, e3]
        have cl : ∀ {z1 : ZR}, zev 113 59 [(0, zA 0 0 0), (2, zI y), (3, zI z), (4, zI (nI m)), (5, zA 2 k 0), (6, zI 0), (7, zI 0), (8, zI 0)] [] σ1 = z1 → (if true = true then if true = true then if true = true then zck (nI k) 4 (zbV (zcall 7 [zA 1 1 0, zA 1 0 0] σ) fun σ27 => zev 113 59 [(0, zA 0 0 0), (2, zI y), (3, zI z), (4, zI (nI m)), (5, zA 2 (nI k).toNatClampNeg 0), (6, zI 0), (7, zI 0), (8, zI 0)] [] σ27) else some (zI (-1), σ) else some (zI (-1), σ) else some (zI (-1), σ)) = z1 := by
          intro z1 hz
          rw [if_pos rfl, if_pos rfl, if_pos rfl, zck_nI k4 (by decide), t1, zbV_some, nI_clamp (by omega)]
          exact hz
        rcases r2 with ⟨g1, g2⟩ | ⟨h', r', g1, g2, g3, g4, g5, g6⟩
        · obtain ⟨ω, w1, w2, w3⟩ := g2 υ hRM
          refine ⟨v, τ, ω, cl r1, ?_, ?_⟩
          · rw [if_pos (by decide), if_pos rfl]
            exact v1.trans w1
          · refine zInv_q (σ := σ) ?_ hi
            intro c g j hn
            by_cases e : c = 3 ∧ g = 0 ∧ j = 1
            · obtain ⟨rfl, rfl, rfl⟩ := e
              exact w3
            · rw [w2 c g j e, v2 c g j (fun q => hn (by obtain ⟨rfl, rfl, rfl⟩ := q; simp [zScr])), g1 c g j (fun q => hn (by obtain ⟨rfl, rfl⟩ := q; simp [zScr])), t2 c g j (fun q => hn (by obtain ⟨rfl, rfl⟩ := q; simp [zScr]))]
        · obtain ⟨ω, w1, w2, w3, w4, w5⟩ := g6 υ hRM
          have e1 : ω 1 0 = τ 1 0 := funext fun j => by rw [w2 1 0 j (by omega), v2 1 0 j (by omega)]
          have hN := a1.2.1.2.2.2.2.1
          have hS := a1.2.1.2.2.2.2.2.2
          refine ⟨v, τ, ω, cl r1, ?_, ?_⟩
          · rw [if_pos (by decide), if_pos rfl]
            exact v1.trans w1
          · refine zInv_r a3 a4 a5 a6 a8 ?_ (fun q hq => ?_) ?_ a1 (S' := S) ?_ ?_ (fun i hi => ?_) (fun q hq => w5 q hq)
            · intro c g j hn
              rw [w2 c g j (fun q => hn (by obtain ⟨rfl, rfl, q | q⟩ := q <;> subst q <;> simp [zR2, zHX])), v2 c g j (fun q => hn (by obtain ⟨rfl, rfl, rfl⟩ := q; simp [zR2, zScr])), hF c g j (fun q => hn (by
                rcases q with ⟨rfl, rfl | rfl⟩ | ⟨rfl, rfl, rfl⟩ <;> simp [zR2, zHX, zScr]))]
            · rw [w3, zru_o hq, v2 3 0 0 (by decide), e3]
            · have ec : ω 0 0 0 = zru (σ 0 0 0) 10 r' := by
                rw [w2 0 0 0 (by decide), v2 0 0 0 (by decide), g5, o1 0 0 0 (by simp [zHG])]
              unfold zFa
              rw [ec, w3, zru_s, zru_s, zru_o (by decide), zru_o (by decide), v2 3 0 0 (by decide), e3]
              exact ⟨a7.1, rfl⟩
            · rw [e1]; exact zWF_IR g3 g1
            · rw [e1]; exact zrel_IR hN hS g3 w4
            · have hi8 : i < 8 := by have := a1.2.1.2.2.2.2.2.1; omega
              rw [e1, (g3.2.2.2 i hi8).1, g2 8 (by decide)]
