/-! the class's walk on the machine -/
def zmvr (b : Nat → Bool) : Nat → Nat → Nat
  | 0, _ => 0
  | p + 1, j => if b p = true ∧ zct b p = j then p else zmvr b p j
theorem zct_le2 {b : Nat → Bool} {p : Nat} : ∀ n, p ≤ n → zct b p ≤ zct b n
  | 0, h => by rw [show p = 0 by omega]; exact Nat.le_refl _
  | n + 1, h => by
    by_cases e : p = n + 1
    · rw [e]; exact Nat.le_refl _
    · have := zct_le2 (b := b) (p := p) n (by omega)
      show zct b p ≤ zct b n + _
      omega
theorem zct_s {b : Nat → Bool} {p : Nat} (hb : b p = true) : zct b (p + 1) = zct b p + 1 := by
  show zct b p + (if b p = true then 1 else 0) = _
  rw [if_pos hb]
theorem zmvr_p {b : Nat → Bool} {p : Nat} (hb : b p = true) : ∀ n, p < n → zmvr b n (zct b p) = p
  | 0, h => absurd h (by omega)
  | n + 1, h => by
    unfold zmvr
    by_cases e : p = n
    · subst e; rw [if_pos ⟨hb, rfl⟩]
    · have h1 := zct_le2 (b := b) (p := p + 1) n (by omega)
      rw [zct_s hb] at h1
      rw [if_neg (fun z => by have := z.2; omega)]
      exact zmvr_p hb n (by omega)
theorem zmvr_j {b : Nat → Bool} {j : Nat} : ∀ n, j < zct b n → ∃ p, p < n ∧ b p = true ∧ zct b p = j ∧ zmvr b n j = p
  | 0, h => absurd h (Nat.not_lt_zero _)
  | n + 1, h => by
    unfold zmvr
    by_cases e : b n = true ∧ zct b n = j
    · rw [if_pos e]
      exact ⟨n, by omega, e.1, e.2, rfl⟩
    · rw [if_neg e]
      have h2 : j < zct b n := by
        have h3 : zct b (n + 1) = zct b n + (if b n = true then 1 else 0) := rfl
        rw [h3] at h
        by_cases hb : b n = true
        · rw [if_pos hb] at h
          have : ¬ zct b n = j := fun z => e ⟨hb, z⟩
          omega
        · rw [if_neg hb] at h; omega
      obtain ⟨p, p1, p2⟩ := zmvr_j n h2
      exact ⟨p, by omega, p2⟩
theorem zmvr_i {b : Nat → Bool} {n : Nat} : ∀ x, x < zct b n → ∀ y, y < zct b n → zmvr b n x = zmvr b n y → x = y := by
  intro x hx y hy e
  obtain ⟨p, -, -, p1, p2⟩ := zmvr_j n hx
  obtain ⟨q, -, -, q1, q2⟩ := zmvr_j n hy
  rw [← p1, ← q1, ← p2, ← q2, e]
/-- the seats taken (bits) -/
def ztk (l : List Nat) : Nat → Nat
  | 0 => 0
  | j + 1 => ztk l j ||| 1 <<< zgt l j
theorem ztk_c {a : Nat} {r : List Nat} : ∀ j, j ≤ r.length → ztk (a :: r) j = ztk r j
  | 0, _ => rfl
  | j + 1, h => by
    unfold ztk
    rw [ztk_c j (by omega)]
    congr 2
    unfold zgt
    rw [if_neg (by omega)]
    cases r with
    | nil => exact absurd h (by simp)
    | cons b r => rfl
theorem ztk_t {s : Nat} : ∀ l : List Nat, (ztk l l.length).testBit s = !zvf l s
  | [] => by
    show (0 : Nat).testBit s = _
    rw [Nat.zero_testBit]
    rfl
  | a :: r => by
    rw [List.length_cons]
    have e : zgt (a :: r) r.length = a := if_pos rfl
    show (ztk (a :: r) r.length ||| 1 <<< zgt (a :: r) r.length).testBit s = _
    rw [ztk_c _ (Nat.le_refl _), e, tb_or, ztk_t r, zvf_c]
    by_cases h : s = a
    · subst h; simp
    · have h2 : ¬ a = s := fun z => h z.symm
      rw [decide_eq_false h, decide_eq_false h2]
      simp
theorem ztk_lt {M : Nat} (hM : M ≤ 12) {l : List Nat} (g : zgd M l = true) : ∀ j, j ≤ l.length → ztk l j < 4096
  | 0, _ => by
    show 0 < 4096
    decide
  | j + 1, h => by
    have := zgt_lt g (show j < l.length by omega)
    exact zor_lt (L := 12) (ztk_lt hM g j (by omega)) (by omega)
def zoN : Option Nat → Int32
  | some t => nI t
  | none => -4
/-- what the class's Seatings holds -/
def zSC (σ : ZS) (mv : Nat → Nat) (k M : Nat) (I : Nat → Bool) : Prop := σ 0 0 9 2 = nI k ∧ σ 0 0 9 3 = nI (zmk I M) ∧ (∀ j, j < k → σ 0 0 10 j = nI (mv j)) ∧ k ≤ M ∧ k ≤ 4 ∧ M ≤ 12 ∧ (∀ j, j < k → mv j < 4) ∧ ∀ a, a < k → ∀ b, b < k → mv a = mv b → a = b
/-- the trial is h, but for the seats of the movers, which are as l tells -/
def zTr (σ : ZS) (h : Nat → Nat → Int32) (mv : Nat → Nat) (k M : Nat) (l : List Nat) : Prop :=
  ((∀ i, i < 7 → σ 1 1 0 i = h 0 i) ∧ (∀ i, i < 12 → σ 1 1 1 i = h 1 i ∧ σ 1 1 2 i = h 2 i ∧ σ 1 1 3 i = h 3 i) ∧ (∀ i, i < 4 → σ 1 1 5 i = h 5 i ∧ σ 1 1 6 i = h 6 i ∧ σ 1 1 7 i = h 7 i) ∧ ∀ i, i < 8 → σ 1 1 8 i = h 8 i ∧ σ 1 1 9 i = h 9 i ∧ σ 1 1 10 i = h 10 i) ∧
  (∀ p, p < 4 → (∀ j, j < k → mv j ≠ p) → σ 1 1 4 p = h 4 p) ∧ (∀ j, j < l.length → σ 1 1 4 (mv j) = nI (zgt l j)) ∧ h 0 0 * h 0 1 = nI M
theorem zTr_IR {σ : ZS} {h : Nat → Nat → Int32} {mv : Nat → Nat} {k M : Nat} {I : Nat → Bool} {l : List Nat} (c : zSC σ mv k M I) (t : zTr σ h mv k M l) (hl : l.length = k) : zIR (σ 1 1) (zhl h mv l) := by
  obtain ⟨⟨t1, t2, t3, t4⟩, t5, t6, -⟩ := t
  have e4 : ∀ p, p < 4 → σ 1 1 4 p = zhl h mv l 4 p := by
    intro p hp
    by_cases hm : ∃ j, j < k ∧ mv j = p
    · obtain ⟨j, hj, rfl⟩ := hm
      rw [t6 j (by omega), zhl_m c.2.2.2.2.2.2.2 l (by omega) (by omega)]
    · rw [t5 p hp (fun j hj e => hm ⟨j, hj, e⟩), zhl_n l (fun j hj e => hm ⟨j, by omega, e⟩)]
  unfold zIR
  simp only [zhl_o (show 0 ≠ 4 by decide), zhl_o (show 1 ≠ 4 by decide), zhl_o (show 2 ≠ 4 by decide), zhl_o (show 3 ≠ 4 by decide), zhl_o (show 5 ≠ 4 by decide), zhl_o (show 6 ≠ 4 by decide), zhl_o (show 7 ≠ 4 by decide), zhl_o (show 8 ≠ 4 by decide), zhl_o (show 9 ≠ 4 by decide), zhl_o (show 10 ≠ 4 by decide)]
  exact ⟨t1, t2, fun i hi => ⟨e4 i hi, t3 i hi⟩, t4⟩
theorem zTr_d {σ : ZS} {h : Nat → Nat → Int32} {mv : Nat → Nat} {k M s : Nat} {r : List Nat} (t : zTr σ h mv k M (s :: r)) : zTr σ h mv k M r := by
  obtain ⟨t1, t5, t6, t7⟩ := t
  refine ⟨t1, t5, fun j hj => ?_, t7⟩
  rw [t6 j (by rw [List.length_cons]; omega)]
  unfold zgt
  rw [if_neg (by omega)]
  cases r with
  | nil => exact absurd hj (by simp)
  | cons b r => rfl
def zT4 (c g j : Nat) : Prop := c = 1 ∧ g = 1 ∧ j = 4
theorem zT4_s (c g j : Nat) (h : zT4 c g j) : zScr c g j := Or.inr (Or.inl ⟨h.1, Or.inl h.2.1⟩)
theorem zSC_f {σ τ : ZS} {mv : Nat → Nat} {k M : Nat} {I : Nat → Bool} (f : zfrm (fun c g j => ¬ (c = 0 ∧ g = 0 ∧ (j = 9 ∨ j = 10))) σ τ) (c : zSC σ mv k M I) : zSC τ mv k M I := by
  unfold zSC
  rw [f 0 0 9 (by decide), f 0 0 10 (by decide)]
  exact c
theorem zT4_n (c g j : Nat) (h : zT4 c g j) : ¬ (c = 0 ∧ g = 0 ∧ (j = 9 ∨ j = 10)) := by
  obtain ⟨rfl, rfl, rfl⟩ := h
  decide
theorem zPX_n (c g j : Nat) (h : zPX c g j) : ¬ (c = 0 ∧ g = 0 ∧ (j = 9 ∨ j = 10)) := by
  obtain ⟨rfl, rfl, h⟩ := h
  omega
theorem zTr_up {σ : ZS} {h : Nat → Nat → Int32} {mv : Nat → Nat} {k M t : Nat} {I : Nat → Bool} {r : List Nat} (c : zSC σ mv k M I) (hr : r.length < k) (u : zTr σ h mv k M r) : zTr (zup σ 1 1 4 (mv r.length) (nI t)) h mv k M (t :: r) := by
  obtain ⟨t1, t5, t6, t7⟩ := u
  have e : ∀ j, j ≠ 4 → zup σ 1 1 4 (mv r.length) (nI t) 1 1 j = σ 1 1 j := fun j hj => zup_o (by omega)
  refine ⟨?_, fun p hp hn => ?_, fun j hj => ?_, t7⟩
  · simp only [e 0 (by decide), e 1 (by decide), e 2 (by decide), e 3 (by decide), e 5 (by decide), e 6 (by decide), e 7 (by decide), e 8 (by decide), e 9 (by decide), e 10 (by decide)]
    exact t1
  · rw [zup_m, zru_o (fun z => hn r.length hr z.symm)]
    exact t5 p hp hn
  · rw [List.length_cons] at hj
    rw [zup_m]
    unfold zgt
    by_cases e2 : j = r.length
    · rw [e2, zru_s, if_pos rfl]
    · rw [if_neg e2, zru_o (fun z => e2 (c.2.2.2.2.2.2.2 j (by omega) r.length hr z)), t6 j (by omega)]
theorem L_free73 {σ : ZS} {x7 : Int32} {b : Nat → Bool} {M : Nat} (hM : M ≤ 12) (hm : σ 1 1 0 0 * σ 1 1 0 1 = nI M) (hb : ∀ s, s < M → zbit x7 s = zb (b s)) : ∀ d s : Nat, s + d = M → zev 49 73 [(1, zA 1 1 0), (7, zI x7), (8, zI (nI s))] [] σ = some (zI (zoN (zlf b s d)), σ)
  | 0, s, h => by
    rw [E_Seatings_freeSeat_73, E_House_seats, zbI_some, hm, if_neg (nI_nlt (by omega) (by omega))]
    rfl
  | d + 1, s, h => by
    rw [E_Seatings_freeSeat_73, E_House_seats, zbI_some, hm, if_pos (nI_lt (by omega) (by omega)), show (x7 >>> (nI s &&& 31)) &&& 1 = zbit x7 s from rfl, hb s (by omega), zif_b]
    unfold zlf
    cases hs : b s with
    | true => rfl
    | false =>
      rw [if_neg (by decide), if_neg (by decide), nI_1]
      exact L_free73 hM hm hb d (s + 1) (by omega)
theorem L_free6 {σ : ZS} {mv : Nat → Nat} {k M : Nat} {I : Nat → Bool} {l : List Nat} (c : zSC σ mv k M I) (g : zgd M l = true) (hl : l.length ≤ k) (ht : ∀ j, j < l.length → σ 1 1 4 (mv j) = nI (zgt l j)) (x3 : Int32) : ∀ d j : Nat, j + d = l.length → zev 49 6 [(0, zA 0 0 9), (1, zA 1 1 0), (2, zI (nI l.length)), (3, zI x3), (4, zI (nI (ztk l j))), (5, zI (nI j))] [] σ = zev 49 73 [(1, zA 1 1 0), (7, zI (((nI (zmk I M) ||| nI (ztk l l.length)) ^^^ (-1)) ||| ((nI (zmk I M) &&& (nI (ztk l l.length) ^^^ (-1))) &&& (-(nI (zmk I M) &&& (nI (ztk l l.length) ^^^ (-1))))))), (8, zI x3)] [] σ
  | 0, j, h => by
    rw [show j = l.length by omega, E_Seatings_freeSeat_6, if_neg (nI_nlt (Nat.le_refl _) (by have := c.2.2.2.2.1; omega)), c.2.1]
  | d + 1, j, h => by
    have hk := c.2.2.2.2.1
    have hM := c.2.2.2.2.2.1
    have hz := zgt_lt g (show j < l.length by omega)
    have hmv := c.2.2.2.2.2.2.1 j (by omega)
    rw [E_Seatings_freeSeat_6, if_pos (nI_lt (by omega) (by omega)), zck_nI (by omega) (by decide), nI_clamp (show j < 2 ^ 31 by omega), c.2.2.1 j (by omega), zck_nI hmv (by decide), nI_clamp (show mv j < 2 ^ 31 by omega), ht j (by omega), nI_1]
    dsimp only
    rw [zn_1 _ (by omega), zn_or]
    exact L_free6 c g hl ht x3 d (j + 1) (by omega)
theorem L_free {σ : ZS} {mv : Nat → Nat} {k M s : Nat} {I : Nat → Bool} {l : List Nat} (c : zSC σ mv k M I) (hm : σ 1 1 0 0 * σ 1 1 0 1 = nI M) (g : zgd M l = true) (hl : l.length ≤ k) (ht : ∀ j, j < l.length → σ 1 1 4 (mv j) = nI (zgt l j)) (hs : s ≤ M) : zcall 49 [zA 0 0 9, zA 1 1 0, zI (nI l.length), zI (nI s)] σ = some (zI (zoN (zlf (zoka I l) s (M - s))), σ) := by
  have hM := c.2.2.2.2.2.1
  rw [E_Seatings_freeSeat]
  rw [show zev 49 6 [(0, zA 0 0 9), (1, zA 1 1 0), (2, zI (nI l.length)), (3, zI (nI s)), (4, zI 0), (5, zI 0)] [] σ = _ from L_free6 c g hl ht (nI s) l.length 0 (by omega)]
  refine L_free73 hM hm (fun j hj => ?_) (M - s) s (by omega)
  have hI : zmk I M < 4096 := Nat.lt_of_lt_of_le (zmk_lt I M) (show 2 ^ M ≤ 2 ^ 12 from Nat.pow_le_pow_right (by omega) hM)
  have hT := ztk_lt hM g l.length (Nat.le_refl _)
  have tI : ∀ i, i < M → (zmk I M).testBit i = I i := fun i hi => by rw [zmk_tb]; simp [hi]
  have tf : ∀ i, i < M → (zmk I M &&& (ztk l l.length ^^^ 4095)).testBit i = (I i && zvf l i) := fun i hi => by
    rw [Nat.testBit_and, Nat.testBit_xor, tI i hi, z4095 i (by omega), Bool.xor_true, ztk_t, Bool.not_not]
  have hf : zmk I M &&& (ztk l l.length ^^^ 4095) < 4096 := Nat.lt_of_le_of_lt Nat.and_le_left hI
  have hp : zpopn j (zmk I M &&& (ztk l l.length ^^^ 4095)) = zct (fun j => I j && zvf l j) j := zct_c j fun i hi => tf i (by omega)
  rw [zbit_bt _ (by omega), zvb_or, zvb_not _ (by omega), zvb_or, zvb_n _ (by omega), zvb_n _ (by omega), tI j hj, ztk_t, zn_not hI, zlow _ hf j (by omega), tf j hj, hp]
  congr 1
  unfold zoka
  cases I j <;> cases zvf l j <;> rfl
theorem L_seatFrom {h : Nat → Nat → Int32} {mv : Nat → Nat} {k M : Nat} {I : Nat → Bool} : ∀ (d : Nat) (l : List Nat) (σ : ZS), l.length + d = k → zgd M l = true → zSC σ mv k M I → zTr σ h mv k M l →
    ∃ τ, zev 48 2 [(0, zA 0 0 9), (1, zA 1 1 0), (3, zI (nI l.length))] [] σ = some (zI 0, τ) ∧ zfrm zT4 σ τ ∧ zTr τ h mv k M (zfs I M d l)
  | 0, l, σ, hl, g, c, t => by
    have hk := c.2.2.2.2.1
    exact ⟨σ, by rw [E_Seatings_seatFrom_2, c.1, if_neg (nI_nlt (by omega) (by omega))], zfrm_r, t⟩
  | d + 1, l, σ, hl, g, c, t => by
    have hk := c.2.2.2.2.1
    have hkM := c.2.2.2.1
    have hM := c.2.2.2.2.2.1
    obtain ⟨s, s1, s2, s3, s4, -⟩ := zoka_e (I := I) g (by omega)
    have e : zfs I M (d + 1) l = zfs I M d (s :: l) := by
      show zfs I M d ((zlf (zoka I l) 0 M).getD 0 :: l) = _
      rw [s1]
      rfl
    have hm : σ 1 1 0 0 * σ 1 1 0 1 = nI M := by rw [t.1.1 0 (by omega), t.1.1 1 (by omega)]; exact t.2.2.2
    have hf := L_free (s := 0) c hm g (by omega) t.2.2.1 (by omega)
    rw [Nat.sub_zero, s1] at hf
    have f1 : zfrm zT4 σ (zup σ 1 1 4 (mv l.length) (nI s)) := zfrm_up zfrm_r ⟨rfl, rfl, rfl⟩
    obtain ⟨τ, t1, t2, t3⟩ := L_seatFrom d (s :: l) (zup σ 1 1 4 (mv l.length) (nI s)) (by rw [List.length_cons]; omega) s4 (zSC_f (zfrm_m zT4_n f1) c) (zTr_up c (by omega) t)
    refine ⟨τ, ?_, zfrm_t f1 t2, by rw [e]; exact t3⟩
    have hmv := c.2.2.2.2.2.2.1 l.length (by omega)
    rw [E_Seatings_seatFrom_2, c.1, if_pos (nI_lt (by omega) (by omega)), zck_nI (by omega) (by decide)]
    rw [show zcall 49 [zA 0 0 9, zA 1 1 0, zI (nI l.length), zI 0] σ = _ from hf, zbI_some, nI_clamp (show l.length < 2 ^ 31 by omega), c.2.2.1 _ (by omega), zck_nI hmv (by decide), nI_clamp (show mv l.length < 2 ^ 31 by omega), nI_1]
    rw [List.length_cons] at t1
    exact t1
theorem L_step {h : Nat → Nat → Int32} {mv : Nat → Nat} {k M : Nat} {I : Nat → Bool} : ∀ (x : List Nat) (d : Nat) (σ : ZS), x.length + d = k → zgd M x = true → zSC σ mv k M I → zTr σ h mv k M x →
    ∃ τ, zev 51 7 [(0, zA 0 0 9), (1, zA 1 1 0), (2, zI (nI x.length - 1))] [] σ = some (zI (zb (zsx I M d x).isSome), τ) ∧ zfrm zT4 σ τ ∧ ∀ y, zsx I M d x = some y → zTr τ h mv k M y
  | [], d, σ, hl, g, c, t => ⟨σ, by rw [E_Seatings_step_7, if_pos (show nI ([] : List Nat).length - 1 < 0 by decide)]; rfl, zfrm_r, fun y hy => absurd hy (by simp [zsx])⟩
  | s :: r, d, σ, hl, g, c, t => by
    have hk := c.2.2.2.2.1
    have hkM := c.2.2.2.1
    have hM := c.2.2.2.2.2.1
    rw [List.length_cons] at hl
    obtain ⟨g1, g2, g3⟩ := zgd_c.mp g
    have hm : σ 1 1 0 0 * σ 1 1 0 1 = nI M := by rw [t.1.1 0 (by omega), t.1.1 1 (by omega)]; exact t.2.2.2
    have hmv := c.2.2.2.2.2.2.1 r.length (by omega)
    have hs : σ 1 1 4 (mv r.length) = nI s := by
      rw [t.2.2.1 r.length (by simp)]
      show nI (if r.length = r.length then s else _) = _
      rw [if_pos rfl]
    have td := zTr_d t
    have hf := L_free (s := s + 1) c hm g3 (by omega) td.2.2.1 (by omega)
    rw [List.length_cons, nI_pred, E_Seatings_step_7, if_neg (nI_pos (by omega)), zck_nI (by omega) (by decide), nI_clamp (show r.length < 2 ^ 31 by omega), c.2.2.1 _ (by omega), zck_nI hmv (by decide), nI_clamp (show mv r.length < 2 ^ 31 by omega), hs, nI_1, hf, zbI_some]
    cases hz : zlf (zoka I r) (s + 1) (M - (s + 1)) with
    | none =>
      rw [if_pos (show zoN none = -4 from rfl), show nI r.length + (-1) = nI r.length - 1 from (Int32.sub_eq_add_neg _ _).symm, zsx_n hz]
      exact L_step r (d + 1) σ (by omega) g3 c td
    | some q =>
      obtain ⟨z1, z2, z3, -⟩ := zlf_s _ _ hz
      have gq : zgd M (q :: r) = true := zgd_c.mpr ⟨by omega, zoka_f z3, g3⟩
      have f1 : zfrm zT4 σ (zup σ 1 1 4 (mv r.length) (nI q)) := zfrm_up zfrm_r ⟨rfl, rfl, rfl⟩
      obtain ⟨τ, t1, t2, t3⟩ := L_seatFrom d (q :: r) (zup σ 1 1 4 (mv r.length) (nI q)) (by rw [List.length_cons]; omega) gq (zSC_f (zfrm_m zT4_n f1) c) (zTr_up c (by omega) td)
      rw [List.length_cons] at t1
      refine ⟨τ, ?_, zfrm_t f1 t2, fun y hy => ?_⟩
      · rw [if_neg (show ¬ zoN (some q) = -4 from nI_ne4 (by omega)), zsx_s hz]
        rw [zck_nI hmv (by decide)]
        show zbV (zcall 48 [zA 0 0 9, zA 1 1 0, zI (nI r.length + 1)] (zup σ 1 1 4 (mv r.length) (nI q))) _ = _
        rw [nI_1, E_Seatings_seatFrom, t1, zbV_some]
        rfl
      · rw [zsx_s hz] at hy
        cases hy
        exact t3
