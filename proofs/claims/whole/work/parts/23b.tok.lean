/-! text: the reference's TOKENS -/
def zTpM (σ : ZS) (b : Nat → Nat) (T : Nat) : Prop := σ 3 0 0 19 = nI T ∧ T ≤ 160 ∧ ∀ i, i < T → σ 3 0 7 i = nI (b i) ∧ b i < 128
/-- what reading a token leaves as it was -/
def zKm (σ τ : ZS) : Prop := zfrm (fun c g j => c = 3 ∧ g = 0 ∧ j = 0) σ τ ∧ ∀ k, k < 20 ∨ 25 < k → τ 3 0 0 k = σ 3 0 0 k
theorem zKm_r (σ : ZS) : zKm σ σ := ⟨zfrm_r, fun _ _ => rfl⟩
theorem zKm_t {σ τ υ : ZS} (h1 : zKm σ τ) (h2 : zKm τ υ) : zKm σ υ := ⟨zfrm_t h1.1 h2.1, fun k hk => (h2.2 k hk).trans (h1.2 k hk)⟩
theorem zKm_u {σ τ : ZS} {k : Nat} {v : Int32} (h : zKm σ τ) (hk : 20 ≤ k ∧ k ≤ 25) : zKm σ (zup τ 3 0 0 k v) := ⟨zfrm_up h.1 ⟨rfl, rfl, rfl⟩, fun q hq => by rw [zup_m, zru_o (by omega)]; exact h.2 q hq⟩
theorem zTpM_k {σ τ : ZS} {b : Nat → Nat} {T : Nat} (k : zKm σ τ) (h : zTpM σ b T) : zTpM τ b T := by
  unfold zTpM
  rw [k.2 19 (by omega), k.1 3 0 7 (by decide)]
  exact h
/-- a fault, or a token, as the reference has them -/
def zFm (σ : ZS) (q : Nat × Nat) : Prop := σ 3 0 0 24 = nI q.1 ∧ 0 < σ 3 0 0 24 ∧ σ 3 0 0 25 = nI q.2
def zTm (σ : ZS) (t : ZTok) : Prop := σ 3 0 0 24 = 0 ∧ σ 3 0 0 20 = nI t.2.2.1 ∧ σ 3 0 0 22 = nI t.1 ∧ σ 3 0 0 21 = nI t.2.1 ∧ (t.1 = 2 → σ 3 0 0 23 = nI t.2.2.2)
def zTRm (τ : ZS) (r : ZP ZTok) : Prop := match r with
  | .inl q => zFm τ q
  | .inr t => zTm τ t
theorem L_need1 (σ : ZS) (x : Int32) : zcall 125 [zA 3 0 0, zI 1, zI x] σ = some (zI 0, σ) := by
  rw [E_M_needs, if_neg (by decide)]
theorem L_need0 {σ : ZS} {f p : Nat} (h0 : σ 3 0 0 24 = 0) (hs : σ 3 0 0 21 = nI p) (hf : 0 < f) (hf2 : f < 7) : ∃ τ, zcall 125 [zA 3 0 0, zI 0, zI (nI f)] σ = some (zI 0, τ) ∧ zKm σ τ ∧ zFm τ (f, p) := by
  refine ⟨zup (zup σ 3 0 0 24 (nI f)) 3 0 0 25 (nI p), ?_, zKm_u (zKm_u (zKm_r σ) (by decide)) (by decide), ?_, ?_, ?_⟩
  · rw [E_M_needs, if_pos rfl, if_pos h0]
    dsimp only
    rw [zup_m, zru_o (by decide), hs]
  · rw [zup_m, zru_o (by decide), zup_same]
  · rw [zup_m, zru_o (by decide), zup_same]
    exact nI_lt (a := 0) hf (by omega)
  · exact zup_same
theorem zFm_ne {σ : ZS} {q : Nat × Nat} (h : zFm σ q) : ¬ σ 3 0 0 24 = 0 := fun e => by
  have := h.2.1
  rw [e] at this
  exact absurd this (by decide)
theorem L_needF {σ : ZS} (h : ¬ σ 3 0 0 24 = 0) (x y : Int32) : zcall 125 [zA 3 0 0, zI x, zI y] σ = some (zI 0, σ) := by
  rw [E_M_needs]
  by_cases hx : x = 0
  · rw [if_pos hx, if_neg h]
  · rw [if_neg hx]
theorem L_byteAt {σ : ZS} {b : Nat → Nat} {T i : Nat} (h : zTpM σ b T) (hi : i < 2 ^ 31) : zcall 124 [zA 3 0 0, zI (nI i)] σ = some (zI (if i < T then nI (b i) else -1), σ) := by
  have hT := h.2.1
  rw [E_M_byteAt, h.1]
  by_cases c : i < T
  · rw [if_pos (nI_lt c (by omega)), if_pos c, zck_nI (by omega) (by decide), nI_clamp hi, (h.2.2 i c).1]
  · rw [if_neg (nI_nlt (by omega) hi), if_neg c]
theorem zskp_n {b : Nat → Nat} : ∀ d i, zskp b d i < i + d → b (zskp b d i) ≠ 32
  | 0, i, h => by
    have : zskp b 0 i = i := rfl
    omega
  | d + 1, i, h => by
    unfold zskp at h ⊢
    by_cases c : b i = 32
    · rw [if_pos c] at h ⊢
      exact zskp_n d (i + 1) (by omega)
    · rw [if_neg c]
      exact c
theorem L_skipM {b : Nat → Nat} {T : Nat} : ∀ (d i : Nat) (σ : ZS), i + d = T → zTpM σ b T → σ 3 0 0 20 = nI i → zev 123 8 [(0, zA 3 0 0)] [] σ = zev 123 8 [(0, zA 3 0 0)] [] (zup σ 3 0 0 20 (nI (zskp b d i)))
  | 0, i, σ, hi, h, e => by
    have ez : zup σ 3 0 0 20 (nI (zskp b 0 i)) = σ := by
      show zup σ 3 0 0 20 (nI i) = σ
      rw [← e, zup_id]
    rw [ez]
  | d + 1, i, σ, hi, h, e => by
    have hT := h.2.1
    unfold zskp
    by_cases c : b i = 32
    · have ih := L_skipM (b := b) d (i + 1) (zup σ 3 0 0 20 (nI (i + 1))) (by omega) (zTpM_k (zKm_u (zKm_r σ) (by decide)) h) zup_same
      rw [zup_2] at ih
      rw [if_pos c, E_M_next_8, e, L_byteAt h (by omega), zbI_some, if_pos (show i < T by omega), c, if_pos (show nI 32 = 32 from rfl)]
      dsimp only
      rw [e, nI_1]
      exact ih
    · rw [if_neg c, ← e, zup_id]
theorem L_inB {c lo hi : Nat} (hc : c < 2 ^ 31) (hl : lo < 2 ^ 31) (hh : hi < 2 ^ 31) (σ : ZS) : zcall 120 [zJ (nI c).toInt64, zJ (nI lo).toInt64, zJ (nI hi).toInt64] σ = some (zI (zb (decide (lo ≤ c) && decide (c ≤ hi))), σ) := by
  rw [L_in σ (nI c) (nI lo) (nI hi) rfl rfl, zin2_n hc hl hh]
theorem L_runM {b : Nat → Nat} {T : Nat} : ∀ (d i : Nat) (σ : ZS), i + d = T → zTpM σ b T → σ 3 0 0 20 = nI i → zev 123 82 [(0, zA 3 0 0)] [] σ = some (zI 0, zup σ 3 0 0 20 (nI (zrun1 b 97 122 d i)))
  | 0, i, σ, hi, h, e => by
    have hT := h.2.1
    have ez : zup σ 3 0 0 20 (nI (zrun1 b 97 122 0 i)) = σ := by
      show zup σ 3 0 0 20 (nI i) = σ
      rw [← e, zup_id]
    have hm : zcall 120 [zJ (-1 : Int32).toInt64, zJ 97, zJ 122] σ = some (zI 0, σ) := by
      rw [L_in97_122]
      rfl
    rw [ez, E_M_next_82, e, L_byteAt h (by omega), zbI_some, if_neg (by omega), hm, zbI_some, if_pos rfl]
  | d + 1, i, σ, hi, h, e => by
    have hT := h.2.1
    have hb := (h.2.2 i (by omega)).2
    have hm := L_inB (c := b i) (lo := 97) (hi := 122) (by omega) (by decide) (by decide) σ
    rw [E_M_next_82, e, L_byteAt h (by omega), zbI_some, if_pos (show i < T by omega)]
    rw [show zcall 120 [zJ (nI (b i)).toInt64, zJ 97, zJ 122] σ = _ from hm, zbI_some, zif_b]
    unfold zrun1
    by_cases c : 97 ≤ b i ∧ b i ≤ 122
    · have ih := L_runM (b := b) d (i + 1) (zup σ 3 0 0 20 (nI (i + 1))) (by omega) (zTpM_k (zKm_u (zKm_r σ) (by decide)) h) zup_same
      rw [zup_2] at ih
      rw [if_pos c, if_pos (by rw [decide_eq_true c.1, decide_eq_true c.2]; rfl), e, nI_1]
      exact ih
    · rw [if_neg c, if_neg (fun z => c (by simpa using z)), ← e, zup_id]
/-- the first two figures alone are taken -/
def znw (b : Nat → Nat) (j i : Nat) : Nat := if i ≤ j then 0 else znv b j i
theorem L_digM {b : Nat → Nat} {T j : Nat} : ∀ (d i : Nat) (σ : ZS), i + d = T → j ≤ i → zTpM σ b T → σ 3 0 0 20 = nI i → σ 3 0 0 21 = nI j → σ 3 0 0 23 = nI (znw b j i) →
    ∃ τ, zev 123 140 [(0, zA 3 0 0)] [] σ = (if 2 < zrun1 b 48 57 d i - j then (zbV (zcall 125 [zA 3 0 0, zI 0, zI 1] τ) (fun σ44 => some (zI 0, σ44))) else (zbV (zcall 125 [zA 3 0 0, zI 1, zI 1] τ) (fun σ45 => some (zI 0, σ45)))) ∧ zKm σ τ ∧ τ 3 0 0 20 = nI (zrun1 b 48 57 d i) ∧ τ 3 0 0 21 = nI j ∧ τ 3 0 0 22 = σ 3 0 0 22 ∧ τ 3 0 0 23 = nI (znw b j (zrun1 b 48 57 d i)) ∧ τ 3 0 0 24 = σ 3 0 0 24
  | 0, i, σ, hi, hj, h, e, ej, ev => by
    have hT := h.2.1
    have hm : zcall 120 [zJ (-1 : Int32).toInt64, zJ 48, zJ 57] σ = some (zI 0, σ) := by
      rw [L_in48_57]
      rfl
    have er : zrun1 b 48 57 0 i = i := rfl
    refine ⟨σ, ?_, zKm_r σ, e, ej, rfl, ev, rfl⟩
    rw [er, E_M_next_140, e, L_byteAt h (by omega), zbI_some, if_neg (by omega), hm, zbI_some, if_pos rfl, e, ej, pk_sub hj]
    by_cases c : 2 < i - j
    · rw [if_pos (show (2 : Int32) < nI (i - j) from nI_lt (a := 2) c (by omega)), if_pos c]
    · rw [if_neg (show ¬ (2 : Int32) < nI (i - j) from nI_nlt (a := 2) (by omega) (by decide)), if_neg c]
  | d + 1, i, σ, hi, hj, h, e, ej, ev => by
    have hT := h.2.1
    have hb := (h.2.2 i (by omega)).2
    have hm := L_inB (c := b i) (lo := 48) (hi := 57) (by omega) (by decide) (by decide) σ
    have hd : ∀ τ, zcall 124 [zA 3 0 0, zI (nI i)] σ = τ → τ = some (zI (nI (b i)), σ) := fun τ ht => by rw [← ht, L_byteAt h (by omega), if_pos (show i < T by omega)]
    rw [E_M_next_140, e, L_byteAt h (by omega), zbI_some, if_pos (show i < T by omega)]
    rw [show zcall 120 [zJ (nI (b i)).toInt64, zJ 48, zJ 57] σ = _ from hm, zbI_some, zif_b, e, ej, pk_sub hj]
    have eu : zrun1 b 48 57 (d + 1) i = if 48 ≤ b i ∧ b i ≤ 57 then zrun1 b 48 57 d (i + 1) else i := rfl
    by_cases c : 48 ≤ b i ∧ b i ≤ 57
    · rw [if_pos (by rw [decide_eq_true c.1, decide_eq_true c.2]; rfl), L_byteAt h (by omega), zbI_some, if_pos (show i < T by omega), ev]
      rw [eu, if_pos c]
      -- what the value becomes
      have val : ∀ v, v = nI (znw b j (i + 1)) → ∃ τ, zev 123 140 [(0, zA 3 0 0)] [] (zup (zup σ 3 0 0 23 v) 3 0 0 20 ((zup σ 3 0 0 23 v) 3 0 0 20 + 1)) = (if 2 < zrun1 b 48 57 d (i + 1) - j then (zbV (zcall 125 [zA 3 0 0, zI 0, zI 1] τ) (fun σ44 => some (zI 0, σ44))) else (zbV (zcall 125 [zA 3 0 0, zI 1, zI 1] τ) (fun σ45 => some (zI 0, σ45)))) ∧ zKm σ τ ∧ τ 3 0 0 20 = nI (zrun1 b 48 57 d (i + 1)) ∧ τ 3 0 0 21 = nI j ∧ τ 3 0 0 22 = σ 3 0 0 22 ∧ τ 3 0 0 23 = nI (znw b j (zrun1 b 48 57 d (i + 1))) ∧ τ 3 0 0 24 = σ 3 0 0 24 := by
        intro v hv
        have e20 : (zup σ 3 0 0 23 v) 3 0 0 20 + 1 = nI (i + 1) := by rw [zup_m, zru_o (by decide), e, nI_1]
        rw [e20]
        have k : zKm σ (zup (zup σ 3 0 0 23 v) 3 0 0 20 (nI (i + 1))) := zKm_u (zKm_u (zKm_r σ) (by decide)) (by decide)
        obtain ⟨τ, t1, t2, t3, t4, t5, t6, t7⟩ := L_digM d (i + 1) (zup (zup σ 3 0 0 23 v) 3 0 0 20 (nI (i + 1))) (by omega) (show j ≤ i + 1 by omega) (zTpM_k k h) zup_same (by rw [zup_m, zru_o (by decide), zup_m, zru_o (by decide)]; exact ej) (by rw [zup_m, zru_o (by decide), zup_same]; exact hv)
        refine ⟨τ, t1, zKm_t k t2, t3, t4, ?_, t6, ?_⟩
        · rw [t5, zup_m, zru_o (by decide), zup_m, zru_o (by decide)]
        · rw [t7, zup_m, zru_o (by decide), zup_m, zru_o (by decide)]
      by_cases c2 : i - j < 2
      · rw [if_pos (show nI (i - j) < 2 from nI_lt (b := 2) c2 (by decide))]
        refine val _ ?_
        rw [zfig _ _ c.1]
        congr 1
        unfold znw
        rw [if_neg (show ¬ i + 1 ≤ j by omega)]
        unfold znv
        by_cases c3 : i = j
        · subst c3
          rw [if_pos (Nat.le_refl _), if_pos rfl, Nat.mul_zero, Nat.zero_add]
        · rw [if_neg (by omega), if_pos (show i = j + 1 by omega), if_neg (by omega), show i = j + 1 by omega]
      · rw [if_neg (show ¬ nI (i - j) < 2 from nI_nlt (b := i - j) (a := i - j) (by omega) (by omega) |> fun _ => nI_nlt (a := i - j) (b := 2) (by omega) (by omega))]
        refine val _ ?_
        congr 1
        unfold znw
        rw [if_neg (show ¬ i ≤ j by omega), if_neg (show ¬ i + 1 ≤ j by omega)]
        unfold znv
        rw [if_neg (by omega), if_neg (by omega)]
    · refine ⟨σ, ?_, zKm_r σ, ?_, ej, rfl, ?_, rfl⟩
      · rw [if_neg (fun z => c (by simpa using z)), eu, if_neg c]
        by_cases c2 : 2 < i - j
        · rw [if_pos (show (2 : Int32) < nI (i - j) from nI_lt (a := 2) c2 (by omega)), if_pos c2]
        · rw [if_neg (show ¬ (2 : Int32) < nI (i - j) from nI_nlt (a := 2) (by omega) (by decide)), if_neg c2]
      · rw [eu, if_neg c]; exact e
      · rw [eu, if_neg c]; exact ev
theorem L_nextM {b : Nat → Nat} {T i : Nat} {σ : ZS} (h : zTpM σ b T) (h0 : σ 3 0 0 24 = 0) (hi : i ≤ T) (e : σ 3 0 0 20 = nI i) : ∃ τ, zcall 123 [zA 3 0 0] σ = some (zI 0, τ) ∧ zKm σ τ ∧ zTRm τ (ztok b T i) := by
  have hT := h.2.1
  have hj := zskp_le b (T - i) i
  have hn := zskp_n (b := b) (T - i) i
  rw [E_M_next, h0, if_neg (by decide), L_skipM (T - i) i σ (by omega) h e]
  unfold ztok
  generalize zskp b (T - i) i = j at *
  obtain ⟨σ0, d0⟩ : ∃ σ0, σ0 = zup σ 3 0 0 20 (nI j) := ⟨_, rfl⟩
  obtain ⟨σ1, d1⟩ : ∃ σ1, σ1 = zup σ0 3 0 0 21 (nI j) := ⟨_, rfl⟩
  have k0 : zKm σ σ0 := by rw [d0]; exact zKm_u (zKm_r σ) (by decide)
  have k1 : zKm σ σ1 := by rw [d1]; exact zKm_u k0 (by decide)
  have u5 : σ0 3 0 0 20 = nI j := by rw [d0, zup_same]
  have v3 : σ1 3 0 0 24 = 0 := by rw [d1, zup_m, zru_o (by decide), d0, zup_m, zru_o (by decide)]; exact h0
  have v5 : σ1 3 0 0 20 = nI j := by rw [d1, zup_m, zru_o (by decide)]; exact u5
  have v7 : σ1 3 0 0 21 = nI j := by rw [d1, zup_same]
  have g0 := zTpM_k k0 h
  have g1 := zTpM_k k1 h
  rw [← d0, E_M_next_8, u5, L_byteAt g0 (by omega), zbI_some]
  have n32 : ¬ (if j < T then nI (b j) else -1) = 32 := by
    by_cases c : j < T
    · rw [if_pos c]
      exact nI_ne (hn (by omega)) (by have := (h.2.2 j c).2; omega) (by decide)
    · rw [if_neg c]; decide
  rw [if_neg n32]
  dsimp only
  rw [u5, ← d1, v5, L_byteAt g1 (by omega), zbI_some]
  unfold ztokAt
  by_cases c1 : T ≤ j
  · rw [if_neg (show ¬ j < T by omega), if_pos (show (-1 : Int32) < 0 by decide), if_pos c1]
    refine ⟨_, rfl, zKm_u k1 (by decide), ?_, ?_, ?_, ?_, fun z => absurd (show 0 = 2 from z) (by decide)⟩
    · rw [zup_m, zru_o (by decide)]; exact v3
    · rw [zup_m, zru_o (by decide)]; exact v5
    · exact zup_same
    · rw [zup_m, zru_o (by decide)]; exact v7
  · have e7 := (h.2.2 j (by omega)).2
    have m1 := L_inB (c := b j) (lo := 97) (hi := 122) (by omega) (by decide) (by decide) σ1
    have m2 := L_inB (c := b j) (lo := 48) (hi := 57) (by omega) (by decide) (by decide) σ1
    rw [if_pos (show j < T by omega), if_neg (nI_pos (by omega)), if_neg c1]
    rw [show zcall 120 [zJ (nI (b j)).toInt64, zJ 97, zJ 122] σ1 = _ from m1, zbI_some, zif_b]
    rw [show zcall 120 [zJ (nI (b j)).toInt64, zJ 48, zJ 57] σ1 = _ from m2, zbI_some, zif_b]
    by_cases c3 : 97 ≤ b j ∧ b j ≤ 122
    · have k2 : zKm σ (zup σ1 3 0 0 22 1) := zKm_u k1 (by decide)
      have hr := L_runM (T - j) j (zup σ1 3 0 0 22 1) (by omega) (zTpM_k k2 h) (by rw [zup_m, zru_o (by decide)]; exact v5)
      rw [if_pos (by rw [decide_eq_true c3.1, decide_eq_true c3.2]; rfl), if_neg (show ¬ b j = 59 by omega), if_pos c3, hr]
      refine ⟨_, rfl, zKm_u k2 (by decide), ?_, ?_, ?_, ?_, fun z => absurd (show 1 = 2 from z) (by decide)⟩
      · rw [zup_m, zru_o (by decide), zup_m, zru_o (by decide)]; exact v3
      · exact zup_same
      · rw [zup_m, zru_o (by decide)]; exact zup_same
      · rw [zup_m, zru_o (by decide), zup_m, zru_o (by decide)]; exact v7
    · rw [if_neg (fun z => c3 (by simpa using z))]
      by_cases c4 : 48 ≤ b j ∧ b j ≤ 57
      · have k2 : zKm σ (zup (zup σ1 3 0 0 22 2) 3 0 0 23 0) := zKm_u (zKm_u k1 (by decide)) (by decide)
        obtain ⟨τ, t1, t2, t3, t4, t5, t6, t7⟩ := L_digM (b := b) (j := j) (T - j) j (zup (zup σ1 3 0 0 22 2) 3 0 0 23 0) (by omega) (Nat.le_refl _) (zTpM_k k2 h) (by rw [zup_m, zru_o (by decide), zup_m, zru_o (by decide)]; exact v5) (by rw [zup_m, zru_o (by decide), zup_m, zru_o (by decide)]; exact v7) (by rw [zup_same]; unfold znw; rw [if_pos (Nat.le_refl _)]; rfl)
        have hlt : j < zrun1 b 48 57 (T - j) j := by
          obtain ⟨d, hd⟩ : ∃ d, T - j = d + 1 := ⟨T - j - 1, by omega⟩
          rw [hd]
          unfold zrun1
          rw [if_pos c4]
          have := zrun1_le b 48 57 d (j + 1)
          omega
        have w24 : τ 3 0 0 24 = 0 := by rw [t7, zup_m, zru_o (by decide), zup_m, zru_o (by decide)]; exact v3
        have w22 : τ 3 0 0 22 = nI 2 := by rw [t5, zup_m, zru_o (by decide), zup_same]; rfl
        have k3 := zKm_t k2 t2
        rw [if_pos (by rw [decide_eq_true c4.1, decide_eq_true c4.2]; rfl), if_neg (show ¬ b j = 59 by omega), if_neg c3, if_pos c4, t1]
        by_cases c5 : 2 < zrun1 b 48 57 (T - j) j - j
        · obtain ⟨υ, u1, u2, u3⟩ := L_need0 (f := 1) w24 t4 (by decide) (by decide)
          rw [if_pos c5, if_pos c5]
          rw [show zcall 125 [zA 3 0 0, zI 0, zI 1] τ = _ from u1, zbV_some]
          exact ⟨υ, rfl, zKm_t k3 u2, u3⟩
        · rw [if_neg c5, if_neg c5, L_need1, zbV_some]
          refine ⟨τ, rfl, k3, w24, t3, w22, t4, fun _ => ?_⟩
          rw [t6]
          unfold znw
          rw [if_neg (by omega)]
      · rw [if_neg (fun z => c4 (by simpa using z))]
        have k2 : zKm σ (zup σ1 3 0 0 22 3) := zKm_u k1 (by decide)
        have x3 : zup σ1 3 0 0 22 3 3 0 0 24 = 0 := by rw [zup_m, zru_o (by decide)]; exact v3
        have x5 : zup σ1 3 0 0 22 3 3 0 0 20 = nI j := by rw [zup_m, zru_o (by decide)]; exact v5
        have x7 : zup σ1 3 0 0 22 3 3 0 0 21 = nI j := by rw [zup_m, zru_o (by decide)]; exact v7
        by_cases c2 : b j = 59
        · rw [if_pos c2, if_pos (show nI (b j) = 59 by rw [c2]; rfl), L_need1, zbV_some]
          rw [x5, nI_1]
          refine ⟨_, rfl, zKm_u k2 (by decide), ?_, ?_, ?_, ?_, fun z => absurd (show 3 = 2 from z) (by decide)⟩
          · rw [zup_m, zru_o (by decide)]; exact x3
          · exact zup_same
          · rw [zup_m, zru_o (by decide)]; exact zup_same
          · rw [zup_m, zru_o (by decide)]; exact x7
        · obtain ⟨υ, u1, u2, u3⟩ := L_need0 (f := 1) x3 x7 (by decide) (by decide)
          rw [if_neg c2, if_neg (show ¬ nI (b j) = 59 from nI_ne c2 (by omega) (by decide)), if_neg c3, if_neg c4]
          rw [show zcall 125 [zA 3 0 0, zI 0, zI 1] (zup σ1 3 0 0 22 3) = _ from u1, zbV_some]
          refine ⟨_, rfl, zKm_u (zKm_t k2 u2) (by decide), ?_, ?_, ?_⟩
          · rw [zup_m, zru_o (by decide)]; exact u3.1
          · rw [zup_m, zru_o (by decide)]; exact u3.2.1
          · rw [zup_m, zru_o (by decide)]; exact u3.2.2
theorem L_nextF {σ : ZS} {q : Nat × Nat} (h : zFm σ q) : zcall 123 [zA 3 0 0] σ = some (zI 0, σ) := by
  rw [E_M_next, if_pos h.2.1]
