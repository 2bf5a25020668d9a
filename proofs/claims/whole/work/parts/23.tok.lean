/-! text: TOKENS -/
theorem zup_id (σ : ZS) (c g j i : Nat) : zup σ c g j i (σ c g j i) = σ := by
  funext c' g' j' i'
  unfold zup
  by_cases h : c' = c ∧ j' = j ∧ g' = g ∧ i' = i
  · obtain ⟨rfl, rfl, rfl, rfl⟩ := h
    rw [if_pos ⟨rfl, rfl, rfl, rfl⟩]
  · rw [if_neg h]
theorem zup_2 (σ : ZS) (c g j i : Nat) (v w : Int32) : zup (zup σ c g j i v) c g j i w = zup σ c g j i w := by
  funext c' g' j' i'
  unfold zup
  by_cases h : c' = c ∧ j' = j ∧ g' = g ∧ i' = i
  · rw [if_pos h, if_pos h]
  · rw [if_neg h, if_neg h, if_neg h]
def zskp (b : Nat → Nat) : Nat → Nat → Nat
  | 0, i => i
  | d + 1, i => if b i = 32 then zskp b d (i + 1) else i
def zrun1 (b : Nat → Nat) (lo hi : Nat) : Nat → Nat → Nat
  | 0, i => i
  | d + 1, i => if lo ≤ b i ∧ b i ≤ hi then zrun1 b lo hi d (i + 1) else i
theorem zskp_le (b : Nat → Nat) : ∀ d i, i ≤ zskp b d i ∧ zskp b d i ≤ i + d
  | 0, i => ⟨Nat.le_refl _, Nat.le_refl _⟩
  | d + 1, i => by
    unfold zskp
    have := zskp_le b d (i + 1)
    split <;> omega
theorem zrun1_le (b : Nat → Nat) (lo hi : Nat) : ∀ d i, i ≤ zrun1 b lo hi d i ∧ zrun1 b lo hi d i ≤ i + d
  | 0, i => ⟨Nat.le_refl _, Nat.le_refl _⟩
  | d + 1, i => by
    unfold zrun1
    have := zrun1_le b lo hi d (i + 1)
    split <;> omega
theorem zrun1_in (b : Nat → Nat) (lo hi : Nat) : ∀ d i j, i ≤ j → j < zrun1 b lo hi d i → lo ≤ b j ∧ b j ≤ hi
  | 0, i, j, h1, h2 => by
    have : zrun1 b lo hi 0 i = i := rfl
    omega
  | d + 1, i, j, h1, h2 => by
    unfold zrun1 at h2
    by_cases h : lo ≤ b i ∧ b i ≤ hi
    · rw [if_pos h] at h2
      by_cases e : j = i
      · rw [e]; exact h
      · exact zrun1_in b lo hi d (i + 1) j (by omega) h2
    · rw [if_neg h] at h2
      omega
/-- a number of one or two figures -/
def znv (b : Nat → Nat) (s e : Nat) : Nat := if e = s + 1 then b s - 48 else 10 * (b s - 48) + (b (s + 1) - 48)
/-- a token: kind (0 end, 1 name, 2 number, 3 sign), where it begins, where it ends, its value -/
abbrev ZTok : Type := Nat × Nat × Nat × Nat
/-- a fault and its place, or what was read -/
abbrev ZP (α : Type) : Type := (Nat × Nat) ⊕ α
def ztokAt (b : Nat → Nat) (T j : Nat) : ZP ZTok :=
  if T ≤ j then .inr (0, j, j, 0)
  else if b j = 59 then .inr (3, j, j + 1, 0)
  else if 97 ≤ b j ∧ b j ≤ 122 then .inr (1, j, zrun1 b 97 122 (T - j) j, 0)
  else if 48 ≤ b j ∧ b j ≤ 57 then (if 2 < zrun1 b 48 57 (T - j) j - j then .inl (1, j) else .inr (2, j, zrun1 b 48 57 (T - j) j, znv b j (zrun1 b 48 57 (T - j) j)))
  else .inl (1, j)
def ztok (b : Nat → Nat) (T i : Nat) : ZP ZTok := ztokAt b T (zskp b (T - i) i)
/-- a token is in order -/
def ztokW (T : Nat) (t : ZTok) : Prop := t.1 < 4 ∧ t.2.1 ≤ t.2.2.1 ∧ t.2.2.1 ≤ T ∧ (t.1 = 2 → t.2.2.2 < 100) ∧ (t.1 ≠ 0 → t.2.1 < t.2.2.1)
theorem ztok_w {b : Nat → Nat} {T i : Nat} {t : ZTok} (hi : i ≤ T) (hb : ∀ i, i < T → b i < 128) (h : ztok b T i = .inr t) : ztokW T t := by
  unfold ztok at h
  have hj := zskp_le b (T - i) i
  generalize zskp b (T - i) i = j at *
  unfold ztokAt at h
  by_cases h1 : T ≤ j
  · rw [if_pos h1] at h
    cases h
    show 0 < 4 ∧ j ≤ j ∧ j ≤ T ∧ (0 = 2 → 0 < 100) ∧ (0 ≠ 0 → j < j)
    exact ⟨by decide, Nat.le_refl _, by omega, fun e => absurd e (by decide), fun e => absurd rfl e⟩
  · rw [if_neg h1] at h
    by_cases h2 : b j = 59
    · rw [if_pos h2] at h
      cases h
      show 3 < 4 ∧ j ≤ j + 1 ∧ j + 1 ≤ T ∧ (3 = 2 → 0 < 100) ∧ (3 ≠ 0 → j < j + 1)
      exact ⟨by decide, by omega, by omega, fun e => absurd e (by decide), fun _ => Nat.lt_succ_self _⟩
    · rw [if_neg h2] at h
      by_cases h3 : 97 ≤ b j ∧ b j ≤ 122
      · rw [if_pos h3] at h
        cases h
        have hr := zrun1_le b 97 122 (T - j) j
        show 1 < 4 ∧ j ≤ zrun1 b 97 122 (T - j) j ∧ zrun1 b 97 122 (T - j) j ≤ T ∧ (1 = 2 → 0 < 100) ∧ (1 ≠ 0 → j < zrun1 b 97 122 (T - j) j)
        refine ⟨by decide, hr.1, by omega, fun e => absurd e (by decide), fun _ => ?_⟩
        obtain ⟨d, hd⟩ : ∃ d, T - j = d + 1 := ⟨T - j - 1, by omega⟩
        rw [hd]
        unfold zrun1
        rw [if_pos h3]
        have := zrun1_le b 97 122 d (j + 1)
        omega
      · rw [if_neg h3] at h
        by_cases h4 : 48 ≤ b j ∧ b j ≤ 57
        · rw [if_pos h4] at h
          have hr := zrun1_le b 48 57 (T - j) j
          have hin := zrun1_in b 48 57 (T - j) j
          have hlt : j < zrun1 b 48 57 (T - j) j := by
            obtain ⟨d, hd⟩ : ∃ d, T - j = d + 1 := ⟨T - j - 1, by omega⟩
            rw [hd]
            unfold zrun1
            rw [if_pos h4]
            have := zrun1_le b 48 57 d (j + 1)
            omega
          by_cases h5 : 2 < zrun1 b 48 57 (T - j) j - j
          · rw [if_pos h5] at h; cases h
          · rw [if_neg h5] at h
            cases h
            show 2 < 4 ∧ j ≤ zrun1 b 48 57 (T - j) j ∧ zrun1 b 48 57 (T - j) j ≤ T ∧ (2 = 2 → znv b j (zrun1 b 48 57 (T - j) j) < 100) ∧ (2 ≠ 0 → j < zrun1 b 48 57 (T - j) j)
            refine ⟨by decide, hr.1, by omega, fun _ => ?_, fun _ => hlt⟩
            unfold znv
            split
            · omega
            · have := hin (j + 1) (by omega) (by omega)
              omega
        · rw [if_neg h4] at h; cases h
/-! the class's TOKENS -/
def zTpB (σ : ZS) (b : Nat → Nat) (T : Nat) : Prop := σ 0 0 5 1 = nI T ∧ T ≤ 160 ∧ ∀ i, i < T → σ 0 0 6 i = nI (b i) ∧ b i < 128
theorem zTpB_f {σ τ : ZS} {b : Nat → Nat} {T : Nat} (f5 : τ 0 0 5 = σ 0 0 5) (f6 : τ 0 0 6 = σ 0 0 6) (h : zTpB σ b T) : zTpB τ b T := by
  unfold zTpB
  rw [f5, f6]
  exact h
theorem zTpB_u {σ : ZS} {b : Nat → Nat} {T k : Nat} {v : Int32} (h : zTpB σ b T) : zTpB (zup σ 0 0 4 k v) b T := zTpB_f (zup_o (by decide)) (zup_o (by decide)) h
theorem nI_ne {a b : Nat} (h : a ≠ b) (ha : a < 2 ^ 31) (hb : b < 2 ^ 31) : ¬ nI a = nI b := fun e => h ((nI_eq ha hb).mp e)
theorem L_skipC {b : Nat → Nat} {T : Nat} : ∀ (d i : Nat) (σ : ZS), i + d = T → zTpB σ b T → σ 0 0 4 5 = nI i → zev 31 8 [(0, zA 0 0 4)] [] σ = zev 31 52 [(0, zA 0 0 4)] [] (zup σ 0 0 4 5 (nI (zskp b d i)))
  | 0, i, σ, hi, h, e => by
    have hT := h.2.1
    have ez : zup σ 0 0 4 5 (nI (zskp b 0 i)) = σ := by
      show zup σ 0 0 4 5 (nI i) = σ
      rw [← e, zup_id]
    rw [ez, E_Reader_takeToken_8, e, h.1, if_neg (nI_nlt (by omega) (by omega))]
  | d + 1, i, σ, hi, h, e => by
    have hT := h.2.1
    obtain ⟨e6, e7⟩ := h.2.2 i (by omega)
    rw [E_Reader_takeToken_8, e, h.1, if_pos (nI_lt (by omega) (by omega)), zck_nI (by omega) (by decide), nI_clamp (by omega), e6, nI_1]
    unfold zskp
    by_cases hb : b i = 32
    · rw [if_pos hb, if_pos (show nI (b i) = 32 by rw [hb]; rfl)]
      have ih := L_skipC d (i + 1) (zup σ 0 0 4 5 (nI (i + 1))) (by omega) (zTpB_u h) zup_same
      rw [zup_2] at ih
      exact ih
    · rw [if_neg hb, if_neg (show ¬ nI (b i) = 32 from nI_ne hb (by omega) (by decide))]
      rw [← e, zup_id]
theorem L_runC {b : Nat → Nat} {T lo hi : Nat} (hlo : lo < 2 ^ 31) (hhi : hi < 2 ^ 31) : ∀ (d i : Nat) (σ : ZS), i + d = T → zTpB σ b T → σ 0 0 4 5 = nI i → zev 32 0 [(0, zA 0 0 4), (1, zI (nI lo)), (2, zI (nI hi))] [] σ = some (zI 0, zup σ 0 0 4 5 (nI (zrun1 b lo hi d i)))
  | 0, i, σ, hi', h, e => by
    have hT := h.2.1
    have ez : zup σ 0 0 4 5 (nI (zrun1 b lo hi 0 i)) = σ := by
      show zup σ 0 0 4 5 (nI i) = σ
      rw [← e, zup_id]
    rw [ez, E_Reader_skipBytes_0, e, h.1, if_neg (nI_nlt (by omega) (by omega))]
  | d + 1, i, σ, hi', h, e => by
    have hT := h.2.1
    obtain ⟨e6, e7⟩ := h.2.2 i (by omega)
    rw [E_Reader_skipBytes_0, e, h.1, if_pos (nI_lt (by omega) (by omega)), zck_nI (by omega) (by decide), zck_nI (by omega) (by decide), nI_clamp (by omega), e6, nI_1]
    unfold zrun1
    by_cases h1 : b i < lo
    · rw [if_pos (nI_lt h1 hlo), if_neg (by omega), ← e, zup_id]
    · rw [if_neg (nI_nlt (by omega) (by omega))]
      by_cases h2 : hi < b i
      · rw [if_pos (nI_lt h2 (by omega)), if_neg (by omega), ← e, zup_id]
      · rw [if_neg (nI_nlt (by omega) hhi), if_pos ⟨by omega, by omega⟩]
        have ih := L_runC (b := b) (T := T) hlo hhi d (i + 1) (zup σ 0 0 4 5 (nI (i + 1))) (by omega) (zTpB_u h) zup_same
        rw [zup_2] at ih
        exact ih
theorem L_skipB {b : Nat → Nat} {T lo hi i : Nat} {σ : ZS} (hlo : lo < 2 ^ 31) (hhi : hi < 2 ^ 31) (hi' : i ≤ T) (h : zTpB σ b T) (e : σ 0 0 4 5 = nI i) : zcall 32 [zA 0 0 4, zI (nI lo), zI (nI hi)] σ = some (zI 0, zup σ 0 0 4 5 (nI (zrun1 b lo hi (T - i) i))) := by
  rw [E_Reader_skipBytes, ← E_Reader_skipBytes_0]
  exact L_runC hlo hhi (T - i) i σ (by omega) h e
theorem L_numAt {b : Nat → Nat} {T : Nat} {σ : ZS} (h : zTpB σ b T) {e : Nat} (he : e ≤ T) : ∀ (d i : Nat) (x : Int32), i + d = e → ∃ v, zev 33 5 [(0, zA 0 0 4), (2, zI (nI e)), (3, zI x), (4, zI (nI i))] [] σ = some (zI v, σ)
  | 0, i, x, hi => by
    have hT := h.2.1
    exact ⟨x, by rw [E_Reader_numberAt_5, if_neg (nI_nlt (by omega) (by omega))]⟩
  | d + 1, i, x, hi => by
    have hT := h.2.1
    obtain ⟨v, hv⟩ := L_numAt h he d (i + 1) ((10 * x + σ 0 0 6 i) - 48) (by omega)
    refine ⟨v, ?_⟩
    rw [E_Reader_numberAt_5, if_pos (nI_lt (by omega) (by omega)), zck_nI (by omega) (by decide), nI_clamp (by omega), nI_1]
    exact hv
theorem zfig (a x : Nat) (h : 48 ≤ x) : ((10 : Int32) * nI a + nI x) - 48 = nI (10 * a + (x - 48)) := by
  rw [show (10 : Int32) = nI 10 from rfl, pk_mul, nI_add, show (48 : Int32) = nI 48 from rfl, pk_sub (by omega), show 10 * a + x - 48 = 10 * a + (x - 48) by omega]
theorem L_number {b : Nat → Nat} {T s e : Nat} {σ : ZS} (h : zTpB σ b T) (hs : s < e) (he : e ≤ T) (hd : ∀ j, s ≤ j → j < e → 48 ≤ b j) : ∃ v, zcall 33 [zA 0 0 4, zI (nI s), zI (nI e)] σ = some (zI v, σ) ∧ (¬ 2 < e - s → v = nI (znv b s e)) := by
  have hT := h.2.1
  rw [E_Reader_numberAt]
  by_cases h2 : 2 < e - s
  · obtain ⟨v, hv⟩ := L_numAt h he (e - s) s 0 (by omega)
    exact ⟨v, hv, fun z => absurd h2 z⟩
  · refine ⟨nI (znv b s e), ?_, fun _ => rfl⟩
    have st : ∀ i a, s ≤ i → i < e → zev 33 5 [(0, zA 0 0 4), (2, zI (nI e)), (3, zI (nI a)), (4, zI (nI i))] [] σ = zev 33 5 [(0, zA 0 0 4), (2, zI (nI e)), (3, zI (nI (10 * a + (b i - 48)))), (4, zI (nI (i + 1)))] [] σ := fun i a h1 h2 => by
      rw [E_Reader_numberAt_5, if_pos (nI_lt (by omega) (by omega)), zck_nI (by omega) (by decide), nI_clamp (by omega), nI_1, (h.2.2 i (by omega)).1, zfig a (b i) (hd i h1 h2)]
    have en : ∀ a, zev 33 5 [(0, zA 0 0 4), (2, zI (nI e)), (3, zI (nI a)), (4, zI (nI e))] [] σ = some (zI (nI a), σ) := fun a => by
      rw [E_Reader_numberAt_5, if_neg (nI_nlt (Nat.le_refl _) (by omega))]
    have s1 := st s 0 (Nat.le_refl _) hs
    rw [show zev 33 5 [(0, zA 0 0 4), (2, zI (nI e)), (3, zI 0), (4, zI (nI s))] [] σ = _ from s1]
    unfold znv
    by_cases h1 : e = s + 1
    · rw [if_pos h1, ← h1, en, Nat.mul_zero, Nat.zero_add]
    · have h3 : e = s + 1 + 1 := by omega
      rw [if_neg h1, st (s + 1) _ (by omega) (by omega), ← h3, en, Nat.mul_zero, Nat.zero_add]
/-- what reading a token leaves as it was -/
def zKp (σ τ : ZS) : Prop := zfrm (fun c g j => c = 0 ∧ g = 0 ∧ j = 4) σ τ ∧ ∀ k, k < 3 ∨ 8 < k → τ 0 0 4 k = σ 0 0 4 k
theorem zKp_r (σ : ZS) : zKp σ σ := ⟨zfrm_r, fun _ _ => rfl⟩
theorem zKp_t {σ τ υ : ZS} (h1 : zKp σ τ) (h2 : zKp τ υ) : zKp σ υ := ⟨zfrm_t h1.1 h2.1, fun k hk => (h2.2 k hk).trans (h1.2 k hk)⟩
theorem zKp_u {σ τ : ZS} {k : Nat} {v : Int32} (h : zKp σ τ) (hk : 3 ≤ k ∧ k ≤ 8) : zKp σ (zup τ 0 0 4 k v) := ⟨zfrm_up h.1 ⟨rfl, rfl, rfl⟩, fun q hq => by rw [zup_m, zru_o (by omega)]; exact h.2 q hq⟩
theorem zTpB_k {σ τ : ZS} {b : Nat → Nat} {T : Nat} (k : zKp σ τ) (h : zTpB σ b T) : zTpB τ b T := zTpB_f (k.1 0 0 5 (by decide)) (k.1 0 0 6 (by decide)) h
/-- a fault, or a token, as the class has them -/
def zFc (σ : ZS) (q : Nat × Nat) : Prop := σ 0 0 4 3 = nI q.1 ∧ ¬ σ 0 0 4 3 = 0 ∧ σ 0 0 4 4 = nI q.2
def zTc (σ : ZS) (t : ZTok) : Prop := σ 0 0 4 3 = 0 ∧ σ 0 0 4 5 = nI t.2.2.1 ∧ σ 0 0 4 6 = nI t.1 ∧ σ 0 0 4 7 = nI t.2.1 ∧ (t.1 = 2 → σ 0 0 4 8 = nI t.2.2.2)
theorem L_fail1 {σ : ZS} {f p : Nat} (h0 : σ 0 0 4 3 = 0) (hs : σ 0 0 4 7 = nI p) (hf : 0 < f) (hf2 : f < 7) : ∃ τ, zcall 34 [zA 0 0 4, zI 1, zI (nI f)] σ = some (zI 0, τ) ∧ zKp σ τ ∧ zFc τ (f, p) := by
  refine ⟨zup (zup σ 0 0 4 3 (nI f)) 0 0 4 4 (nI p), ?_, zKp_u (zKp_u (zKp_r σ) (by decide)) (by decide), ?_, ?_, ?_⟩
  · rw [E_Reader_failIf, if_neg (by decide), if_pos h0]
    dsimp only
    rw [zup_m, zru_o (by decide), hs]
  · rw [zup_m, zru_o (by decide), zup_same]
  · rw [zup_m, zru_o (by decide), zup_same]
    exact nI_ne0 hf (by omega)
  · exact zup_same
theorem L_fail0 (σ : ZS) (x : Int32) : zcall 34 [zA 0 0 4, zI 0, zI x] σ = some (zI 0, σ) := by
  rw [E_Reader_failIf, if_pos rfl]
theorem L_failF {σ : ZS} (h : ¬ σ 0 0 4 3 = 0) (x y : Int32) : zcall 34 [zA 0 0 4, zI x, zI y] σ = some (zI 0, σ) := by
  rw [E_Reader_failIf]
  by_cases hx : x = 0
  · rw [if_pos hx]
  · rw [if_neg hx, if_neg h]
def zTR (τ : ZS) (r : ZP ZTok) : Prop := match r with
  | .inl q => zFc τ q
  | .inr t => zTc τ t
theorem zin2_n {a lo hi : Nat} (ha : a < 2 ^ 31) (hl : lo < 2 ^ 31) (hh : hi < 2 ^ 31) : zin2 (nI a) (nI lo) (nI hi) = (decide (lo ≤ a) && decide (a ≤ hi)) := by
  unfold zin2
  congr 1
  · exact decide_eq_decide.mpr (nI_leI hl ha)
  · exact decide_eq_decide.mpr (nI_leI ha hh)
theorem L_takeC {b : Nat → Nat} {T i : Nat} {σ : ZS} (h : zTpB σ b T) (h0 : σ 0 0 4 3 = 0) (hi : i ≤ T) (e : σ 0 0 4 5 = nI i) : ∃ τ, zcall 31 [zA 0 0 4] σ = some (zI 0, τ) ∧ zKp σ τ ∧ zTR τ (ztok b T i) := by
  have hT := h.2.1
  have hj := zskp_le b (T - i) i
  rw [E_Reader_takeToken, if_pos h0, L_skipC (T - i) i σ (by omega) h e]
  unfold ztok
  generalize zskp b (T - i) i = j at *
  obtain ⟨σ1, d1⟩ : ∃ σ1, σ1 = zup (zup σ 0 0 4 5 (nI j)) 0 0 4 7 (nI j) := ⟨_, rfl⟩
  have k1 : zKp σ σ1 := by rw [d1]; exact zKp_u (zKp_u (zKp_r σ) (by decide)) (by decide)
  have v3 : σ1 0 0 4 3 = 0 := by rw [d1, zup_m, zru_o (by decide), zup_m, zru_o (by decide)]; exact h0
  have v5 : σ1 0 0 4 5 = nI j := by rw [d1, zup_m, zru_o (by decide), zup_same]
  have v7 : σ1 0 0 4 7 = nI j := by rw [d1, zup_same]
  have h1 := zTpB_k k1 h
  rw [E_Reader_takeToken_52]
  dsimp only
  rw [show zup σ 0 0 4 5 (nI j) 0 0 4 5 = nI j from zup_same, ← d1, v5, h1.1]
  unfold ztokAt
  by_cases c1 : T ≤ j
  · rw [if_neg (nI_nlt c1 (by omega)), if_pos c1]
    refine ⟨_, rfl, zKp_u k1 (by decide), ?_, ?_, ?_, ?_, fun z => absurd (show 0 = 2 from z) (by decide)⟩
    · rw [zup_m, zru_o (by decide)]; exact v3
    · rw [zup_m, zru_o (by decide)]; exact v5
    · exact zup_same
    · rw [zup_m, zru_o (by decide)]; exact v7
  · obtain ⟨e6, e7⟩ := h1.2.2 j (by omega)
    rw [if_pos (nI_lt (by omega) (by omega)), if_neg c1, zck_nI (by omega) (by decide), nI_clamp (by omega), e6]
    by_cases c2 : b j = 59
    · rw [if_pos (show nI (b j) = 59 by rw [c2]; rfl), if_pos c2]
      refine ⟨_, rfl, zKp_u (zKp_u k1 (by decide)) (by decide), ?_, ?_, ?_, ?_, fun z => absurd (show 3 = 2 from z) (by decide)⟩
      · rw [zup_m, zru_o (by decide), zup_m, zru_o (by decide)]; exact v3
      · rw [zup_same, zup_m, zru_o (by decide), v5, nI_1]
      · rw [zup_m, zru_o (by decide)]; exact zup_same
      · rw [zup_m, zru_o (by decide), zup_m, zru_o (by decide)]; exact v7
    · rw [if_neg (show ¬ nI (b j) = 59 from nI_ne c2 (by omega) (by decide)), if_neg c2, L_is97_122, zbI_some, zif_b, L_is48_57, zbI_some, zif_b, zin2_n (by omega) (by decide) (by decide), zin2_n (by omega) (by decide) (by decide)]
      by_cases c3 : 97 ≤ b j ∧ b j ≤ 122
      · have k2 : zKp σ (zup σ1 0 0 4 6 1) := zKp_u k1 (by decide)
        have hr := L_skipB (lo := 97) (hi := 122) (σ := zup σ1 0 0 4 6 1) (by decide) (by decide) (show j ≤ T by omega) (zTpB_k k2 h) (by rw [zup_m, zru_o (by decide)]; exact v5)
        rw [if_pos (by rw [decide_eq_true c3.1, decide_eq_true c3.2]; rfl), if_pos c3]
        rw [show zcall 32 [zA 0 0 4, zI 97, zI 122] (zup σ1 0 0 4 6 1) = _ from hr, zbV_some]
        refine ⟨_, rfl, zKp_u k2 (by decide), ?_, ?_, ?_, ?_, fun z => absurd (show 1 = 2 from z) (by decide)⟩
        · rw [zup_m, zru_o (by decide), zup_m, zru_o (by decide)]; exact v3
        · exact zup_same
        · rw [zup_m, zru_o (by decide)]; exact zup_same
        · rw [zup_m, zru_o (by decide), zup_m, zru_o (by decide)]; exact v7
      · rw [if_neg (fun z => c3 (by simpa using z)), if_neg c3]
        by_cases c4 : 48 ≤ b j ∧ b j ≤ 57
        · have k2 : zKp σ (zup σ1 0 0 4 6 2) := zKp_u k1 (by decide)
          have hr := L_skipB (lo := 48) (hi := 57) (σ := zup σ1 0 0 4 6 2) (by decide) (by decide) (show j ≤ T by omega) (zTpB_k k2 h) (by rw [zup_m, zru_o (by decide)]; exact v5)
          have hle := zrun1_le b 48 57 (T - j) j
          have hin := zrun1_in b 48 57 (T - j) j
          have hlt : j < zrun1 b 48 57 (T - j) j := by
            obtain ⟨d, hd⟩ : ∃ d, T - j = d + 1 := ⟨T - j - 1, by omega⟩
            rw [hd]
            unfold zrun1
            rw [if_pos c4]
            have := zrun1_le b 48 57 d (j + 1)
            omega
          generalize zrun1 b 48 57 (T - j) j = z at *
          obtain ⟨σ2, d2⟩ : ∃ σ2, σ2 = zup (zup σ1 0 0 4 6 2) 0 0 4 5 (nI z) := ⟨_, rfl⟩
          have k3 : zKp σ σ2 := by rw [d2]; exact zKp_u k2 (by decide)
          obtain ⟨v, n1, n2⟩ := L_number (zTpB_k k3 h) hlt (by omega) (fun q q1 q2 => (hin q q1 q2).1)
          have w7 : σ2 0 0 4 7 = nI j := by rw [d2, zup_m, zru_o (by decide), zup_m, zru_o (by decide)]; exact v7
          have w5 : σ2 0 0 4 5 = nI z := by rw [d2, zup_same]
          have w3 : σ2 0 0 4 3 = 0 := by rw [d2, zup_m, zru_o (by decide), zup_m, zru_o (by decide)]; exact v3
          have w6 : σ2 0 0 4 6 = nI 2 := by rw [d2, zup_m, zru_o (by decide), zup_same]; rfl
          rw [if_pos (by rw [decide_eq_true c4.1, decide_eq_true c4.2]; rfl), if_pos c4]
          rw [show zcall 32 [zA 0 0 4, zI 48, zI 57] (zup σ1 0 0 4 6 2) = _ from hr, zbV_some, ← d2, w7, w5, n1, zbI_some]
          have u5 : zup σ2 0 0 4 8 v 0 0 4 5 = nI z := by rw [zup_m, zru_o (by decide)]; exact w5
          have u7 : zup σ2 0 0 4 8 v 0 0 4 7 = nI j := by rw [zup_m, zru_o (by decide)]; exact w7
          have u3 : zup σ2 0 0 4 8 v 0 0 4 3 = 0 := by rw [zup_m, zru_o (by decide)]; exact w3
          have k4 : zKp σ (zup σ2 0 0 4 8 v) := zKp_u k3 (by decide)
          rw [u5, u7, pk_sub (by omega)]
          by_cases c5 : 2 < z - j
          · obtain ⟨τ, t1, t2, t3⟩ := L_fail1 (f := 1) u3 u7 (by decide) (by decide)
            rw [if_pos (show (2 : Int32) < nI (z - j) from nI_lt (a := 2) c5 (by omega)), if_pos c5]
            rw [show zcall 34 [zA 0 0 4, zI 1, zI 1] (zup σ2 0 0 4 8 v) = _ from t1, zbV_some]
            exact ⟨τ, rfl, zKp_t k4 t2, t3⟩
          · rw [if_neg (show ¬ (2 : Int32) < nI (z - j) from nI_nlt (b := z - j) (a := 2) (by omega) (by decide)), if_neg c5, L_fail0, zbV_some]
            refine ⟨_, rfl, k4, u3, u5, ?_, u7, fun _ => ?_⟩
            · rw [zup_m, zru_o (by decide)]; exact w6
            · rw [zup_same]; exact n2 c5
        · obtain ⟨τ, t1, t2, t3⟩ := L_fail1 (f := 1) v3 v7 (by decide) (by decide)
          rw [if_neg (fun z => c4 (by simpa using z)), if_neg c4]
          rw [show zcall 34 [zA 0 0 4, zI 1, zI 1] σ1 = _ from t1, zbV_some]
          exact ⟨τ, rfl, zKp_t k1 t2, t3⟩
theorem L_takeF {σ : ZS} (h : ¬ σ 0 0 4 3 = 0) : zcall 31 [zA 0 0 4] σ = some (zI 0, σ) := by
  rw [E_Reader_takeToken, if_neg h]
