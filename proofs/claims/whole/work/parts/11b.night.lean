/-! night(what): which lines, the first missed, whole scenes -/
def zFst (r : Nat → Int32) (j L : Nat) (v : Int32) : Prop := (v = -4 ∧ ∀ k, j ≤ k → k < L → r k ≠ -4) ∨ ∃ i, j ≤ i ∧ i < L ∧ v = nI i ∧ r i = -4 ∧ ∀ k, j ≤ k → k < i → r k ≠ -4
theorem zFst_u {r : Nat → Int32} {j L : Nat} {v u : Int32} (h1 : zFst r j L v) (h2 : zFst r j L u) : v = u := by
  rcases h1 with ⟨rfl, h1⟩ | ⟨i, b1, b2, rfl, b4, b5⟩
  · rcases h2 with ⟨rfl, h2⟩ | ⟨i, b1, b2, rfl, b4, b5⟩
    · rfl
    · exact absurd b4 (h1 i b1 b2)
  · rcases h2 with ⟨rfl, h2⟩ | ⟨i2, c1, c2, rfl, c4, c5⟩
    · exact absurd b4 (h2 i b1 b2)
    · rcases Nat.lt_trichotomy i i2 with h | h | h
      · exact absurd b4 (c5 i b1 h)
      · rw [h]
      · exact absurd c4 (b5 i2 c1 h)
theorem L_fmC {σ : ZS} {L : Nat} (n1 : σ 1 0 0 4 = nI L) (hL : L ≤ 8) : ∀ d i : Nat, i + d = L → (∀ k, k < i → σ 0 0 8 k ≠ -4) → ∃ v, zev 27 2 [(0, zA 0 0 7), (1, zA 1 0 0), (2, zI (nI i))] [] σ = some (zI v, σ) ∧ zFst (σ 0 0 8) 0 L v
  | 0, i, h, hk => by
    obtain rfl : i = L := by omega
    exact ⟨-4, by rw [E_Night_firstMissed_2, n1, if_neg (nI_nlt (by omega) (by omega))], Or.inl ⟨rfl, fun k _ => hk k⟩⟩
  | d + 1, i, h, hk => by
    rw [E_Night_firstMissed_2, n1, if_pos (nI_lt (by omega) (by omega)), zck_nI (by omega) (by decide), nI_clamp (by omega)]
    by_cases hc : σ 0 0 8 i = -4
    · rw [if_pos hc]
      exact ⟨_, rfl, Or.inr ⟨i, by omega, by omega, rfl, hc, fun k _ => hk k⟩⟩
    · rw [if_neg hc, nI_1]
      refine L_fmC n1 hL d (i + 1) (by omega) (fun k hki => ?_)
      by_cases e : k = i
      · rw [e]; exact hc
      · exact hk k (by omega)
theorem zshl0 : ∀ i, i < 12 → (0 : Int32) <<< (nI i &&& 31) = 0 := by decide
/-- the bits of the lines from j on that are spoken -/
def zBt (r : Nat → Int32) (j L m : Nat) : Prop := m < 256 ∧ ∀ k, m.testBit k = (decide (j ≤ k) && (decide (k < L) && !decide (r k = -4)))
theorem L_night36 {σ : ZS} {L : Nat} (hL : L ≤ 8) (x1 x2 : Int32) : ∀ (j m : Nat) (v : Int32), j ≤ L → zBt (σ 3 0 8) j L m → zFst (σ 3 0 8) j L v → ∃ m2 v2, zev 168 36 [(0, zA 3 0 0), (1, zI x1), (2, zI x2), (3, zI (nI m)), (4, zI v), (5, zI 0), (6, zI (nI j - 1))] [] σ = zev 168 97 [(0, zA 3 0 0), (1, zI x1), (2, zI x2), (3, zI (nI m2)), (4, zI v2), (5, zI 0), (6, zI 0)] [] σ ∧ zBt (σ 3 0 8) 0 L m2 ∧ zFst (σ 3 0 8) 0 L v2
  | 0, m, v, _, hb, hf => by
    refine ⟨m, v, ?_, hb, hf⟩
    rw [E_M_night_36, if_pos (by decide)]
  | j + 1, m, v, hj, hb, hf => by
    rw [nI_pred, E_M_night_36, if_neg (Int32.not_lt.mpr (nI_pos' (by omega))), zck_nI (by omega) (by decide), nI_clamp (by omega), L_flag0, L_flag1, zbI_some, zbI_some, zck_nI (by omega) (by decide), zck_nI (by omega) (by decide), show nI j + (-1) = nI j - 1 from (Int32.sub_eq_add_neg _ _).symm, zshl0 j (by omega), Int32.or_zero, zb2 m hb.1 j (by omega)]
    by_cases hc : σ 3 0 8 j = -4
    · rw [if_pos hc, if_pos hc]
      refine L_night36 hL x1 x2 j m (nI j) (by omega) ⟨hb.1, fun k => ?_⟩ (Or.inr ⟨j, by omega, by omega, rfl, hc, fun k h1 h2 => by omega⟩)
      rw [hb.2 k]
      by_cases e : k = j
      · subst e; simp [hc]
      · by_cases e2 : j ≤ k
        · simp [e2, show j + 1 ≤ k by omega]
        · simp [e2, show ¬ j + 1 ≤ k by omega]
    · rw [if_neg hc, if_neg hc]
      refine L_night36 hL x1 x2 j (m ||| 1 <<< j) v (by omega) ⟨zor_lt (L := 8) hb.1 (by omega), fun k => ?_⟩ ?_
      · rw [tb_or, hb.2 k]
        by_cases e : j = k
        · subst e; simp [hc, show j < L by omega]
        · by_cases e2 : j ≤ k
          · simp [e, e2, show j + 1 ≤ k by omega]
          · simp [e, e2, show ¬ j + 1 ≤ k by omega]
      · rcases hf with ⟨rfl, hf⟩ | ⟨i, b1, b2, rfl, b4, b5⟩
        · refine Or.inl ⟨rfl, fun k h1 h2 => ?_⟩
          by_cases e : k = j
          · rw [e]; exact hc
          · exact hf k (by omega) h2
        · refine Or.inr ⟨i, by omega, b2, rfl, b4, fun k h1 h2 => ?_⟩
          by_cases e : k = j
          · rw [e]; exact hc
          · exact b5 k (by omega) h2
theorem zBt_mk {r : Nat → Int32} {L m : Nat} {b : Nat → Bool} (hL : L ≤ 8) (hb : ∀ k, k < L → b k = !decide (r k = -4)) (h : zBt r 0 L m) : m = zmk b L := by
  refine Nat.eq_of_testBit_eq fun k => ?_
  rw [h.2, zmk_tb]
  by_cases e : k < L
  · simp [e, hb k e]
  · simp [e]
/-! whole scenes -/
/-- (whole so far, the scene is still on) d lines behind line j -/
def zscn (op sp : Nat → Bool) (j : Nat) : Nat → Bool × Bool
  | 0 => (sp j, true)
  | d + 1 => ((zscn op sp j d).1 && (!((zscn op sp j d).2 && !op (j + 1 + d)) || sp (j + 1 + d)), (zscn op sp j d).2 && !op (j + 1 + d))
theorem zscn_on {op sp : Nat → Bool} {j : Nat} : ∀ d, (zscn op sp j d).2 = true ↔ ∀ k, j < k → k ≤ j + d → op k = false
  | 0 => ⟨fun _ k h1 h2 => by omega, fun _ => rfl⟩
  | d + 1 => by
    unfold zscn
    dsimp only
    rw [Bool.and_eq_true, zscn_on d]
    constructor
    · rintro ⟨h1, h2⟩ k h3 h4
      by_cases e : k = j + 1 + d
      · rw [e]; simpa using h2
      · exact h1 k h3 (by omega)
    · intro h
      exact ⟨fun k h3 h4 => h k h3 (by omega), by simp [h (j + 1 + d) (by omega) (by omega)]⟩
theorem zct_one {b c : Nat → Bool} {l : Nat} : ∀ n, (∀ j, j < n → j ≠ l → c j = b j) → l < n → c l = false → zct c n + (if b l = true then 1 else 0) = zct b n
  | 0, _, h, _ => by omega
  | n + 1, h, hl, hc => by
    unfold zct
    by_cases e : l = n
    · subst e
      rw [zct_c l (fun j hj => h j (by omega) (by omega)), hc]
      simp
    · rw [← zct_one n (fun j hj hjl => h j (by omega) hjl) (by omega) hc, h n (by omega) (fun z => e z.symm)]
      omega
/-- whole scenes up to line i -/
def zscc (op sp : Nat → Bool) (i : Nat) : Nat := zct (fun j => op j && (zscn op sp j (i - 1 - j)).1) i
theorem zscc_open {op sp : Nat → Bool} {i : Nat} (ho : op i = true) : zscc op sp (i + 1) = zscc op sp i + (if sp i = true then 1 else 0) := by
  unfold zscc
  show zct (fun j => op j && (zscn op sp j (i + 1 - 1 - j)).1) i + (if (op i && (zscn op sp i (i + 1 - 1 - i)).1) = true then 1 else 0) = _
  rw [show i + 1 - 1 - i = 0 by omega, ho, show (zscn op sp i 0).1 = sp i from rfl]
  congr 1
  refine zct_c i fun j hj => ?_
  rw [show i + 1 - 1 - j = (i - 1 - j) + 1 by omega]
  conv => lhs; unfold zscn
  rw [show j + 1 + (i - 1 - j) = i by omega, ho]
  simp
theorem zscc_spoken {op sp : Nat → Bool} {i : Nat} (ho : op i = false) (hs : sp i = true) : zscc op sp (i + 1) = zscc op sp i := by
  unfold zscc
  show zct (fun j => op j && (zscn op sp j (i + 1 - 1 - j)).1) i + (if (op i && (zscn op sp i (i + 1 - 1 - i)).1) = true then 1 else 0) = _
  rw [ho]
  simp only [Bool.false_and, Nat.add_zero, if_neg (show ¬ false = true by decide)]
  refine zct_c i fun j hj => ?_
  rw [show i + 1 - 1 - j = (i - 1 - j) + 1 by omega]
  conv => lhs; unfold zscn
  rw [show j + 1 + (i - 1 - j) = i by omega, hs]
  simp
/-- l is the opening last passed -/
theorem zscc_silent {op sp : Nat → Bool} {i l : Nat} (ho : op i = false) (hs : sp i = false) (hl : l < i) (hol : op l = true) (hon : ∀ k, l < k → k < i → op k = false) : zscc op sp (i + 1) + (if (zscn op sp l (i - 1 - l)).1 = true then 1 else 0) = zscc op sp i := by
  unfold zscc
  show zct (fun j => op j && (zscn op sp j (i + 1 - 1 - j)).1) i + (if (op i && (zscn op sp i (i + 1 - 1 - i)).1) = true then 1 else 0) + _ = _
  rw [ho]
  simp only [Bool.false_and, Nat.add_zero, if_neg (show ¬ false = true by decide)]
  have h := zct_one (b := fun j => op j && (zscn op sp j (i - 1 - j)).1) (c := fun j => op j && (zscn op sp j (i + 1 - 1 - j)).1) (l := l) i (by
    intro j hj hjl
    cases hoj : op j with
    | false => rfl
    | true =>
      have hnot : (zscn op sp j (i - 1 - j)).2 = false := by
        cases hz : (zscn op sp j (i - 1 - j)).2 with
        | false => rfl
        | true =>
          have hz2 := (zscn_on (i - 1 - j)).mp hz
          rcases Nat.lt_or_gt_of_ne hjl with h1 | h1
          · have := hz2 l h1 (by omega)
            rw [hol] at this; cases this
          · have := hon j h1 hj
            rw [hoj] at this; cases this
      rw [show i + 1 - 1 - j = (i - 1 - j) + 1 by omega]
      conv => lhs; unfold zscn
      rw [hnot]
      simp) hl (by
    have hz : (zscn op sp l (i - 1 - l)).2 = true := (zscn_on _).mpr fun k h1 h2 => hon k h1 (by omega)
    rw [show i + 1 - 1 - l = (i - 1 - l) + 1 by omega]
    unfold zscn
    rw [hz, show l + 1 + (i - 1 - l) = i by omega, ho, hs]
    simp)
  simp only [hol, Bool.true_and] at h
  exact h
