/-! A NIGHT of the reference: who can speak -/
/-- what the reference has of a NIGHT of house h with aw away -/
def zMN (σ : ZS) (h : Nat → Nat → Int32) (aw : Nat → Bool) (P N L : Nat) : Prop :=
  σ 3 0 0 4 = nI P ∧ σ 3 0 0 5 = nI N ∧ σ 3 0 0 6 = nI L ∧ (∀ i, i < L → σ 3 0 4 i = h 8 i) ∧ zrn h aw (σ 3 0 2) N L
theorem L_of0 {σ : ZS} {p : Nat} (hp : p < 4) : zcall 160 [zA 3 0 0, zI (nI p), zI 0] σ = some (zI (σ 3 0 2 (12 + 4 * p)), σ) := L_of 0 hp (by decide)
theorem L_of1 {σ : ZS} {p : Nat} (hp : p < 4) : zcall 160 [zA 3 0 0, zI (nI p), zI 1] σ = some (zI (σ 3 0 2 (13 + 4 * p)), σ) := by
  rw [show 13 + 4 * p = 12 + 4 * p + 1 by omega]
  exact L_of 1 hp (by decide)
theorem L_of2 {σ : ZS} {p : Nat} (hp : p < 4) : zcall 160 [zA 3 0 0, zI (nI p), zI 2] σ = some (zI (σ 3 0 2 (14 + 4 * p)), σ) := by
  rw [show 14 + 4 * p = 12 + 4 * p + 2 by omega]
  exact L_of 2 hp (by decide)
theorem L_of3 {σ : ZS} {p : Nat} (hp : p < 4) : zcall 160 [zA 3 0 0, zI (nI p), zI 3] σ = some (zI (σ 3 0 2 (15 + 4 * p)), σ) := by
  rw [show 15 + 4 * p = 12 + 4 * p + 3 by omega]
  exact L_of 3 hp (by decide)
theorem L_canSpeak {σ : ZS} {h : Nat → Nat → Int32} {P M N L p i : Nat} {aw : Nat → Bool} {ahead : Int32} (w : zNW h P M N L) (m : zMN σ h aw P N L) (hp : p < N) (hi : i < L) (hah : zah h aw M N ahead) :
    zcall 167 [zA 3 0 0, zI (nI p), zI (nI i), zI ahead] σ = some (zI (zb (zcan h aw i ahead p)), σ) := by
  obtain ⟨w1, w2, w3, w4, w5, w6, w7, w8, w9, w10⟩ := w
  obtain ⟨m1, m2, m3, m4, n1, n2, n3, n4⟩ := m
  have hp4 : p < 4 := by omega
  obtain ⟨q0, q1, q2, q3⟩ := n2 p hp
  rw [E_M_canSpeak, L_of0 hp4, zbI_some, q0]
  cases h5 : aw p with
  | true =>
    rw [if_pos (rfl : true = true), if_pos rfl]
    simp [zcan, h5, zb]
  | false =>
    rw [if_neg (by decide : ¬ false = true)]
    by_cases h1 : h 4 p = -4
    · rw [if_pos h1]
      simp [zcan, h1, zb]
    · rw [if_neg h1, L_of2 hp4, zbI_some, q2]
      obtain ⟨s, hs, hps⟩ := (w10 p hp).resolve_left h1
      have hcl : (h 4 p).toNatClampNeg = s := by rw [hps, nI_clamp (by omega)]
      by_cases h4 : nI i < h 6 p
      · rw [if_pos h4]
        simp [zcan, h4, zb]
      · rw [if_neg h4, hps, show (0 : Int32) + nI s = nI s from Int32.zero_add _, zck_nI (by omega) (by decide), zck_nI (by omega) (by decide), nI_clamp (by omega), nI_clamp (by omega), n1 s (by omega), m4 i hi]
        by_cases h3 : h 3 s = h 8 i
        · rw [if_pos h3]
          rcases hah with rfl | ⟨q, hq, rfl, haq, t, ht, hqt⟩
          · rw [if_pos rfl]
            simp [zcan, h5, h1, hcl, h3, h4, zb]
          · have hq4 : q < 4 := by omega
            obtain ⟨r0, r1, -, -⟩ := n2 q hq
            have u0 : σ 3 0 2 (12 + 4 * q) = nI t := by
              rw [r0, haq, if_neg (by decide), hqt]
            rw [if_neg (nI_ne4 (by omega)), E_M_doesHear, L_of0 hq4, zbI_some, u0, L_farOf m1 w5 w6 w7 w8 hs ht, zbI_some, L_of1 hq4, zbI_some, r1]
            have hq2 : (nI q).toNatClampNeg = q := nI_clamp (by omega)
            have ht2 : (h 4 q).toNatClampNeg = t := by rw [hqt, nI_clamp (by omega)]
            have hz : zcan h aw i (nI q) p = (!decide (h 5 q < zfar h s t) && decide (zbit (h 7 p) q = 0)) := by
              unfold zcan
              rw [hq2, hcl, ht2]
              simp [h5, h1, h3, h4, nI_ne4 (show q < 2 ^ 31 by omega)]
            rw [hz]
            by_cases h6 : h 5 q < zfar h s t
            · rw [if_pos h6, zbI_some, if_pos rfl]
              simp [h6, zb]
            · rw [if_neg h6, zbI_some, if_neg (by decide), L_of3 hp4, zbI_some, q3]
              rw [show (h 7 p >>> (nI q &&& 31)) &&& 1 = zbit (h 7 p) q from rfl]
              by_cases h7 : zbit (h 7 p) q = 0
              · rw [if_pos h7]
                simp [h6, h7, zb]
              · rw [if_neg h7]
                simp [h6, h7, zb]
        · rw [if_neg h3]
          simp [zcan, hcl, h3, zb]
/-- the reference: the best of those that can -/
theorem L_mSpeakerOf_6 {σ : ZS} {h : Nat → Nat → Int32} {P M N L i : Nat} {aw : Nat → Bool} {ahead : Int32} (w : zNW h P M N L) (m : zMN σ h aw P N L) (hi : i < L) (hah : zah h aw M N ahead) : ∀ d p : Nat, p + d = N →
    zev 166 6 [(0, zA 3 0 0), (1, zI (nI i)), (2, zI ahead), (3, zI (zbest h aw i ahead p)), (4, zI (nI p))] [] σ = some (zI (zbest h aw i ahead N), σ)
  | 0, p, hp => by
    obtain rfl : p = N := by omega
    rw [E_M_speakerOf_6, m.2.1, if_neg (nI_nlt (by omega) (by have := w.2.2.1; omega))]
  | d + 1, p, hp => by
    have hN : N ≤ 4 := w.2.2.1
    have ih := L_mSpeakerOf_6 w m hi hah d (p + 1) (by omega)
    rw [E_M_speakerOf_6, m.2.1, if_pos (nI_lt (by omega) (by omega)), L_canSpeak w m (by omega) hi hah, zbI_some, zif_b, nI_1]
    have e : zbest h aw i ahead (p + 1) = if zcan h aw i ahead p = true ∧ (zbest h aw i ahead p = -4 ∨ h 4 p < h 4 (zbest h aw i ahead p).toNatClampNeg) then nI p else zbest h aw i ahead p := rfl
    cases hc : zcan h aw i ahead p with
    | false =>
      rw [if_neg (by decide)]
      rw [e, if_neg (by rw [hc]; rintro ⟨b1, -⟩; cases b1)] at ih
      exact ih
    | true =>
      rw [if_pos rfl]
      by_cases hb : zbest h aw i ahead p = -4
      · rw [if_pos hb]
        rw [e, if_pos ⟨hc, Or.inl hb⟩] at ih
        exact ih
      · rw [if_neg hb]
        obtain ⟨q, hq, eq, hcq⟩ := (zbest_in (h := h) (aw := aw) (i := i) (ahead := ahead) p).resolve_left hb
        have aq : aw q = false := by
          unfold zcan at hcq
          cases h5 : aw q with
          | true => rw [h5] at hcq; simp at hcq
          | false => rfl
        have ap : aw p = false := by
          unfold zcan at hc
          cases h5 : aw p with
          | true => rw [h5] at hc; simp at hc
          | false => rfl
        have vp : σ 3 0 2 (12 + 4 * p) = h 4 p := by rw [(m.2.2.2.2.2.1 p (by omega)).1, ap, if_neg (by decide)]
        have vq : σ 3 0 2 (12 + 4 * q) = h 4 q := by rw [(m.2.2.2.2.2.1 q (by omega)).1, aq, if_neg (by decide)]
        rw [L_of0 (by omega), zbI_some, eq, L_of0 (by omega), zbI_some, vp, vq]
        by_cases hl : h 4 p < h 4 q
        · rw [if_pos hl]
          rw [e, if_pos ⟨hc, Or.inr (by rw [eq, nI_clamp (by omega)]; exact hl)⟩] at ih
          exact ih
        · rw [if_neg hl]
          rw [e, if_neg (by rintro ⟨-, b | b⟩; exact hb b; rw [eq, nI_clamp (by omega)] at b; exact hl b), eq] at ih
          exact ih
theorem L_mSpeakerOf {σ : ZS} {h : Nat → Nat → Int32} {P M N L i : Nat} {aw : Nat → Bool} {ahead : Int32} (w : zNW h P M N L) (m : zMN σ h aw P N L) (hi : i < L) (hah : zah h aw M N ahead) : zcall 166 [zA 3 0 0, zI (nI i), zI ahead] σ = some (zI (zbest h aw i ahead N), σ) := by
  rw [E_M_speakerOf]
  exact L_mSpeakerOf_6 w m hi hah N 0 (by omega)
/-! the night itself -/
def zat' (h : Nat → Nat → Int32) (s : Int32 × Bool) (i : Nat) : Int32 × Bool := if zbit (h 0 5) i = 0 then s else (-4, false)
def zsp' (h : Nat → Nat → Int32) (aw : Nat → Bool) (N : Nat) (cut : Nat → Bool) (s : Int32 × Bool) (i : Nat) : Int32 := if cut i = true then -4 else if s.2 = true then -4 else zbest h aw i s.1 N
def znx (h : Nat → Nat → Int32) (aw : Nat → Bool) (N : Nat) (cut : Nat → Bool) (s : Int32 × Bool) (i : Nat) : Int32 × Bool :=
  if cut i = true then s else (zsp' h aw N cut s i, if zsp' h aw N cut s i = -4 then decide (h 0 2 = 0) else s.2)
/-- (whom one answers, is the thread lost) ahead of line i -/
def zns (h : Nat → Nat → Int32) (aw : Nat → Bool) (N : Nat) (cut : Nat → Bool) : Nat → Int32 × Bool
  | 0 => (-4, false)
  | i + 1 => znx h aw N cut (zat' h (zns h aw N cut i) i) i
/-- who speaks line i -/
def zsp (h : Nat → Nat → Int32) (aw : Nat → Bool) (N : Nat) (cut : Nat → Bool) (i : Nat) : Int32 := zsp' h aw N cut (zat' h (zns h aw N cut i) i) i
theorem zah_sp {h : Nat → Nat → Int32} {aw : Nat → Bool} {P M N L : Nat} {cut : Nat → Bool} {s : Int32 × Bool} {i : Nat} (w : zNW h P M N L) : zah h aw M N (zsp' h aw N cut s i) := by
  unfold zsp'
  split
  · exact Or.inl rfl
  · split
    · exact Or.inl rfl
    · rcases zbest_in (h := h) (aw := aw) (i := i) (ahead := s.1) N with e | ⟨q, hq, e, hc⟩
      · exact Or.inl e
      · unfold zcan at hc
        have aq : aw q = false := by
          cases h5 : aw q with
          | true => rw [h5] at hc; simp at hc
          | false => rfl
        have nq : ¬ h 4 q = -4 := by
          intro z
          rw [z] at hc
          simp at hc
        exact Or.inr ⟨q, hq, e, aq, (w.2.2.2.2.2.2.2.2.2 q hq).resolve_left nq⟩
theorem zah_at {h : Nat → Nat → Int32} {aw : Nat → Bool} {M N : Nat} {s : Int32 × Bool} {i : Nat} (hs : zah h aw M N s.1) : zah h aw M N (zat' h s i).1 := by
  unfold zat'
  split
  · exact hs
  · exact Or.inl rfl
theorem zah_ns {h : Nat → Nat → Int32} {aw : Nat → Bool} {P M N L : Nat} {cut : Nat → Bool} (w : zNW h P M N L) : ∀ i, zah h aw M N (zns h aw N cut i).1
  | 0 => Or.inl rfl
  | i + 1 => by
    unfold zns znx
    split
    · exact zah_at (zah_ns w i)
    · exact zah_sp w
