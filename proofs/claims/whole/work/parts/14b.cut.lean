/-! cut -/
theorem zbit12 : ∀ k, k < 256 → ∀ i, i < 12 → zbit (nI k) i = if k.testBit i then 1 else 0 := by decide +kernel
theorem L_bitsOf_4 {σ : ZS} {k : Nat} (hk : k < 256) : ∀ d i : Nat, i + d = 12 → zev 179 4 [(0, zI (nI k)), (1, zI (nI (zct (fun j => k.testBit j) i))), (2, zI (nI i))] [] σ = some (zI (nI (zpopn 12 k)), σ)
  | 0, i, h => by
    obtain rfl : i = 12 := by omega
    rw [E_M_bitsOf_4, if_neg (show ¬ nI 12 < 12 by decide)]
    rfl
  | d + 1, i, h => by
    have ih := L_bitsOf_4 (σ := σ) hk d (i + 1) (by omega)
    rw [E_M_bitsOf_4, if_pos (show nI i < 12 from nI_lt (b := 12) (by omega) (by decide)), show (nI k >>> (nI i &&& 31)) &&& 1 = zbit (nI k) i from rfl, zbit12 k hk i (by omega), nI_1]
    have e : zct (fun j => k.testBit j) (i + 1) = zct (fun j => k.testBit j) i + (if k.testBit i = true then 1 else 0) := rfl
    rw [e] at ih
    cases hb : k.testBit i with
    | true =>
      rw [hb] at ih
      rw [if_pos rfl, nI_1]
      exact ih
    | false =>
      rw [hb] at ih
      rw [if_neg (by decide), Int32.add_zero]
      exact ih
theorem L_bitsOf {σ : ZS} {k : Nat} (hk : k < 256) : zcall 179 [zI (nI k)] σ = some (zI (nI (zpopn 12 k)), σ) := by
  rw [E_M_bitsOf]
  exact L_bitsOf_4 hk 12 0 (by omega)
theorem zit_snoc {α : Type} {f : Nat → α → α} : ∀ (d i : Nat) (s : α), zit f i (d + 1) s = f (i + d) (zit f i d s)
  | 0, _, _ => rfl
  | d + 1, i, s => by
    show zit f (i + 1) (d + 1) (f i s) = _
    rw [zit_snoc d (i + 1) (f i s), show i + 1 + d = i + (d + 1) by omega]
    rfl
theorem zit_2 {α β : Type} {f : Nat → α → α} {g : Nat → β → β} {r : α → β → Prop} : ∀ (d i : Nat) (s : α) (t : β), (∀ j, i ≤ j → j < i + d → ∀ s t, r s t → r (f j s) (g j t)) → r s t → r (zit f i d s) (zit g i d t)
  | 0, _, _, _, _, h => h
  | d + 1, i, s, t, hf, h => zit_2 d (i + 1) (f i s) (g i t) (fun j h1 h2 => hf j (by omega) (by omega)) (hf i (by omega) (by omega) s t h)
/-- with the lines of k cut -/
def zcvl (h : Nat → Nat → Int32) (N L k : Nat) : Nat := zspn h zno N (fun i => k.testBit i) L
def zcok (h : Nat → Nat → Int32) (N L k : Nat) : Bool := decide (nI (zcvl h N L k) = nI L - nI (zpopn 12 k))
def zcuC (h : Nat → Nat → Int32) (N L k l : Nat) : Nat := if zpopn 12 k < zpopn 12 l ∧ zcok h N L k = true then k else l
def zcuM (h : Nat → Nat → Int32) (N L k : Nat) (s : Int32 × Int32) : Int32 × Int32 := if nI (zpopn 12 k) < s.1 ∧ zcok h N L k = true then (nI (zpopn 12 k), nI k) else s
theorem zpopn_le (k : Nat) : zpopn 12 k ≤ 12 := zct_le _ 12
theorem z2p : ∀ L, L < 9 → (1 : Int32) <<< (nI L &&& 31) = nI (2 ^ L) ∧ 2 ^ L ≤ 256 ∧ 0 < 2 ^ L ∧ zpopn 12 (2 ^ L - 1) = L := by decide
theorem zpop_lt : ∀ L, L < 9 → ∀ k, k < 2 ^ L - 1 → zpopn 12 k < L := by decide +kernel
theorem zcb (k : Nat) (hk : k < 256) (i : Nat) (hi : i < 12) : zbit (nI k) i = zb (k.testBit i) := by
  rw [zbit12 k hk i hi]
  cases k.testBit i <;> rfl
theorem L_cutC_27 {h : Nat → Nat → Int32} {R P N L S : Nat} (w : zWF h R P N L S) (x : Int32) : ∀ (d k l : Nat) (σ : ZS), k + d = 2 ^ L - 1 → l < 256 → σ 1 0 = h →
    ∃ τ, zev 88 27 [(0, zA 0 0 0), (1, zI x), (2, zI (nI (2 ^ L - 1))), (3, zI (nI l)), (4, zI (nI k))] [] σ = some (zI (if x = 0 then nI (zpopn 12 (zit (zcuC h N L) k d l)) else nI (zit (zcuC h N L) k d l)), τ) ∧ zfrm zScr σ τ
  | 0, k, l, σ, hk, hl, hh => by
    have hL := w.2.1.2.2.2.2.2.1
    obtain ⟨b1, b2, b3, b4⟩ := z2p L (by omega)
    refine ⟨σ, ?_, zfrm_r⟩
    rw [show k = 2 ^ L - 1 by omega, E_S_cut_27, if_neg (nI_nlt (Nat.le_refl _) (by omega)), L_bitCount, zbI_some, zbc_n l (by omega)]
    unfold zit
    split <;> rfl
  | d + 1, k, l, σ, hk, hl, hh => by
    have hL := w.2.1.2.2.2.2.2.1
    obtain ⟨b1, b2, b3, b4⟩ := z2p L (by omega)
    have hk8 : k < 256 := by omega
    have hp1 := zpopn_le k
    have hp2 := zpopn_le l
    rw [E_S_cut_27, if_pos (nI_lt (by omega) (by omega)), L_bitCount, zbI_some, L_bitCount, zbI_some, zbc_n l (by omega), zbc_n k (by omega), nI_1]
    unfold zit
    by_cases h1 : zpopn 12 k < zpopn 12 l
    · obtain ⟨τ, t1, t2, -⟩ := L_play (σ := σ) (g := 0) (aw := zno) (cut := fun i => k.testBit i) (away := 0) (cuts := nI k) (by rw [hh]; exact zWF_NW w) (fun p hp => zbit_0 p (by have := w.2.1.2.2.2.2.1; omega)) (fun i hi => zcb k hk8 i (by omega))
      rw [hh] at t1
      have f := zfrm_m zPX_s t2
      have hh2 : τ 1 0 = h := by rw [zh_f f, hh]
      rw [if_pos (nI_lt h1 (by omega)), t1, zbI_some, hh2, w.1.2.2.2.1]
      by_cases h2 : nI (zspn h zno N (fun i => k.testBit i) L) = nI L - nI (zpopn 12 k)
      · rw [if_pos h2]
        have e : zcuC h N L k l = k := if_pos ⟨h1, decide_eq_true h2⟩
        obtain ⟨υ, u1, u2⟩ := L_cutC_27 w x d (k + 1) k τ (by omega) hk8 hh2
        rw [e]
        exact ⟨υ, u1, zfrm_t f u2⟩
      · rw [if_neg h2]
        have e : zcuC h N L k l = l := if_neg (fun z => h2 (of_decide_eq_true z.2))
        obtain ⟨υ, u1, u2⟩ := L_cutC_27 w x d (k + 1) l τ (by omega) hl hh2
        rw [e]
        exact ⟨υ, u1, zfrm_t f u2⟩
    · rw [if_neg (nI_nlt (by omega) (by omega))]
      have e : zcuC h N L k l = l := if_neg (fun z => h1 z.1)
      rw [e]
      exact L_cutC_27 w x d (k + 1) l σ (by omega) hl hh
theorem L_cutM_24 {h : Nat → Nat → Int32} {P M N L : Nat} (w : zNW h P M N L) (x : Int32) : ∀ (d k : Nat) (s : Int32 × Int32) (σ : ZS), k + d = 2 ^ L → zMN σ h zno P N L →
    ∃ τ, zev 178 24 [(0, zA 3 0 0), (1, zI x), (2, zI s.1), (3, zI s.2), (4, zI (nI k))] [] σ = some (zI (if x = 0 then (zit (zcuM h N L) k d s).1 else (zit (zcuM h N L) k d s).2), τ) ∧ zfrm zScr σ τ
  | 0, k, s, σ, hk, m => by
    have hL := w.2.2.2.1
    obtain ⟨b1, b2, b3, b4⟩ := z2p L (by omega)
    refine ⟨σ, ?_, zfrm_r⟩
    rw [show k = 2 ^ L by omega, E_M_cut_24, m.2.2.1, b1, if_neg (nI_nlt (Nat.le_refl _) (by omega))]
    unfold zit
    split <;> rfl
  | d + 1, k, s, σ, hk, m => by
    have hL := w.2.2.2.1
    obtain ⟨b1, b2, b3, b4⟩ := z2p L (by omega)
    have hk8 : k < 256 := by omega
    rw [E_M_cut_24, m.2.2.1, b1, if_pos (nI_lt (by omega) (by omega)), L_bitsOf hk8, zbI_some]
    unfold zit
    by_cases h1 : nI (zpopn 12 k) < s.1
    · obtain ⟨τ, t1, t2, -⟩ := L_nightBut (cut := fun i => k.testBit i) (cuts := nI k) w (fun i hi => zcb k hk8 i (by omega)) m
      have m2 := zMN_f t2 m
      rw [if_pos h1, t1, zbI_some, L_bitsOf hk8, zbI_some, m2.2.2.1]
      by_cases h2 : nI (zspn h zno N (fun i => k.testBit i) L) = nI L - nI (zpopn 12 k)
      · rw [if_pos h2]
        have e : zcuM h N L k s = (nI (zpopn 12 k), nI k) := if_pos ⟨h1, decide_eq_true h2⟩
        obtain ⟨υ, u1, u2⟩ := L_cutM_24 w x d (k + 1) (zcuM h N L k s) τ (by omega) m2
        refine ⟨υ, ?_, zfrm_t (zfrm_m zMX_s t2) u2⟩
        rw [e] at u1 ⊢
        rw [E_M_cut_81, if_neg (by decide), L_bitsOf hk8, zbI_some, nI_1]
        exact u1
      · rw [if_neg h2]
        have e : zcuM h N L k s = s := if_neg (fun z => h2 (of_decide_eq_true z.2))
        obtain ⟨υ, u1, u2⟩ := L_cutM_24 w x d (k + 1) s τ (by omega) m2
        refine ⟨υ, ?_, zfrm_t (zfrm_m zMX_s t2) u2⟩
        rw [e, E_M_cut_81, if_pos rfl, nI_1]
        exact u1
    · rw [if_neg h1]
      have e : zcuM h N L k s = s := if_neg (fun z => h1 z.1)
      rw [e, E_M_cut_81, if_pos rfl, nI_1]
      exact L_cutM_24 w x d (k + 1) s σ (by omega) m
/-- found so far: none, or the same -/
def zcuR (L : Nat) (s : Int32 × Int32) (l : Nat) : Prop := (l = 2 ^ L - 1 ∧ s.1 = 1000000) ∨ (l < 2 ^ L - 1 ∧ s = (nI (zpopn 12 l), nI l))
theorem zcu_all (h : Nat → Nat → Int32) (N L : Nat) (hL : L ≤ 8) : zcok h N L (2 ^ L - 1) = true := by
  obtain ⟨b1, b2, b3, b4⟩ := z2p L (by omega)
  unfold zcok
  rw [b4]
  have e : zcvl h N L (2 ^ L - 1) = 0 := by
    unfold zcvl zspn
    have : zct (zspk h zno N (fun i => (2 ^ L - 1).testBit i)) L = zct (fun _ => false) L := by
      refine zct_c L fun i hi => ?_
      unfold zspk
      rw [zsp_1 (by rw [Nat.testBit_two_pow_sub_one]; simp [hi])]
      rfl
    rw [this]
    have h0 := zct_tail (b := fun _ => false) (n := 0) L (fun _ _ _ => rfl)
    rw [Nat.zero_add] at h0
    exact h0
  rw [e, Int32.sub_self]
  rfl
theorem Q_cut {σ : ZS} (hi : zInv σ) (x : Int32) : zPair (zcall 88 [zA 0 0 0, zI x]) (zcall 178 [zA 3 0 0, zI x]) σ := by
  obtain ⟨R, P, N, L, S, a1, a2, a3, a4, a5, a6, a7, a8⟩ := id hi
  have hL : L ≤ 8 := a1.2.1.2.2.2.2.2.1
  obtain ⟨b1, b2, b3, b4⟩ := z2p L (by omega)
  unfold zPair
  simp only [E_S_cut, E_M_cut, E_S_bitsBelow, L_is0_1, L_in0_1, zbI_some, zif_b]
  cases h1 : zin2 x (nI 0) (nI 1) with
  | false => exact ⟨-1, σ, σ, rfl, rfl, hi⟩
  | true =>
    have c := zCx_of a1 a2 a3
    obtain ⟨τ, p1, p2⟩ := L_cutC_27 a1 x (2 ^ L - 1) 0 (2 ^ L - 1) σ (by omega) (by omega) rfl
    obtain ⟨υ, q1, q2⟩ := L_cutM_24 (zWF_NW a1) x (2 ^ L) 0 (1000000, 0) (zst τ) (by omega) (zCx_MN (zCx_f p2 c))
    refine ⟨_, τ, υ, Eq.trans ?_ p1, ?_, zInv_q q2 (zInv_q (zst_f τ) (zInv_q p2 hi))⟩
    · rw [if_pos rfl, a1.1.2.2.2.1, b1, show nI (2 ^ L) - 1 = nI (2 ^ L - 1) by obtain ⟨m, hm⟩ : ∃ m, 2 ^ L = m + 1 := ⟨2 ^ L - 1, by omega⟩; rw [hm, nI_pred]; rfl]
      rfl
    · rw [if_pos rfl, L_starts, zbV_some]
      rw [show zev 178 24 [(0, zA 3 0 0), (1, zI x), (2, zI 1000000), (3, zI 0), (4, zI 0)] [] (zst τ) = _ from q1]
      have hr := zit_2 (r := zcuR L) (f := zcuM (σ 1 0) N L) (g := zcuC (σ 1 0) N L) (2 ^ L - 1) 0 (1000000, 0) (2 ^ L - 1) (fun k _ hk s l h => by
        have hpk := zpop_lt L (by omega) k (by omega)
        unfold zcuM zcuC
        rcases h with ⟨rfl, e⟩ | ⟨hl, rfl⟩
        · rw [b4, e]
          by_cases ho : zcok (σ 1 0) N L k = true
          · rw [if_pos ⟨nI_lt (b := 1000000) (by omega) (by decide), ho⟩, if_pos ⟨hpk, ho⟩]
            exact Or.inr ⟨by omega, rfl⟩
          · rw [if_neg (fun z => ho z.2), if_neg (fun z => ho z.2)]
            exact Or.inl ⟨rfl, e⟩
        · by_cases ho : zpopn 12 k < zpopn 12 l ∧ zcok (σ 1 0) N L k = true
          · rw [if_pos ⟨nI_lt ho.1 (by have := zpopn_le l; omega), ho.2⟩, if_pos ho]
            exact Or.inr ⟨by omega, rfl⟩
          · rw [if_neg (fun z => ?_), if_neg ho]
            · exact Or.inr ⟨hl, rfl⟩
            · refine ho ⟨?_, z.2⟩
              refine Nat.lt_of_not_le fun hle => ?_
              exact absurd z.1 (nI_nlt hle (by have := zpopn_le k; omega))) (Or.inl ⟨rfl, rfl⟩)
      have e2 : zit (zcuM (σ 1 0) N L) 0 (2 ^ L) (1000000, 0) = zcuM (σ 1 0) N L (2 ^ L - 1) (zit (zcuM (σ 1 0) N L) 0 (2 ^ L - 1) (1000000, 0)) := by
        have := zit_snoc (f := zcuM (σ 1 0) N L) (2 ^ L - 1) 0 (1000000, 0)
        rw [Nat.zero_add, show 2 ^ L - 1 + 1 = 2 ^ L by omega] at this
        exact this
      rw [e2]
      rcases hr with ⟨e3, e4⟩ | ⟨hl, e4⟩
      · rw [e3]
        have e5 : zcuM (σ 1 0) N L (2 ^ L - 1) (zit (zcuM (σ 1 0) N L) 0 (2 ^ L - 1) (1000000, 0)) = (nI (zpopn 12 (2 ^ L - 1)), nI (2 ^ L - 1)) := by
          unfold zcuM at e4 ⊢
          rw [if_pos ⟨by rw [e4, b4]; exact nI_lt (b := 1000000) (by omega) (by decide), zcu_all _ _ _ hL⟩]
        rw [e5]
      · have hpk := zpop_lt L (by omega) _ hl
        have e5 : zcuM (σ 1 0) N L (2 ^ L - 1) (zit (zcuM (σ 1 0) N L) 0 (2 ^ L - 1) (1000000, 0)) = zit (zcuM (σ 1 0) N L) 0 (2 ^ L - 1) (1000000, 0) := by
          refine if_neg (fun z => ?_)
          have z1 := z.1
          rw [e4, b4] at z1
          exact absurd z1 (nI_nlt (by omega) (by omega))
        rw [e5, e4]
