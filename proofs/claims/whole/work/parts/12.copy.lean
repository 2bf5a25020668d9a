/-! A COPY of a house: the cells in bounds are the same -/
def zIR (h k : Nat → Nat → Int32) : Prop :=
  (∀ i, i < 7 → h 0 i = k 0 i) ∧ (∀ i, i < 12 → h 1 i = k 1 i ∧ h 2 i = k 2 i ∧ h 3 i = k 3 i) ∧ (∀ i, i < 4 → h 4 i = k 4 i ∧ h 5 i = k 5 i ∧ h 6 i = k 6 i ∧ h 7 i = k 7 i) ∧ (∀ i, i < 8 → h 8 i = k 8 i ∧ h 9 i = k 9 i ∧ h 10 i = k 10 i)
theorem zIR_r {h : Nat → Nat → Int32} : zIR h h := ⟨fun _ _ => rfl, fun _ _ => ⟨rfl, rfl, rfl⟩, fun _ _ => ⟨rfl, rfl, rfl, rfl⟩, fun _ _ => ⟨rfl, rfl, rfl⟩⟩
theorem zIR_y {h k : Nat → Nat → Int32} (a : zIR h k) : zIR k h :=
  ⟨fun i hi => (a.1 i hi).symm, fun i hi => let ⟨b1, b2, b3⟩ := a.2.1 i hi; ⟨b1.symm, b2.symm, b3.symm⟩, fun i hi => let ⟨b1, b2, b3, b4⟩ := a.2.2.1 i hi; ⟨b1.symm, b2.symm, b3.symm, b4.symm⟩, fun i hi => let ⟨b1, b2, b3⟩ := a.2.2.2 i hi; ⟨b1.symm, b2.symm, b3.symm⟩⟩
theorem zIR_t {h k l : Nat → Nat → Int32} (a : zIR h k) (b : zIR k l) : zIR h l :=
  ⟨fun i hi => (a.1 i hi).trans (b.1 i hi), fun i hi => let ⟨b1, b2, b3⟩ := a.2.1 i hi; let ⟨c1, c2, c3⟩ := b.2.1 i hi; ⟨b1.trans c1, b2.trans c2, b3.trans c3⟩, fun i hi => let ⟨b1, b2, b3, b4⟩ := a.2.2.1 i hi; let ⟨c1, c2, c3, c4⟩ := b.2.2.1 i hi; ⟨b1.trans c1, b2.trans c2, b3.trans c3, b4.trans c4⟩, fun i hi => let ⟨b1, b2, b3⟩ := a.2.2.2 i hi; let ⟨c1, c2, c3⟩ := b.2.2.2 i hi; ⟨b1.trans c1, b2.trans c2, b3.trans c3⟩⟩
theorem zhu_c {h k : Nat → Nat → Int32} {j i j' i' : Nat} {v : Int32} (e : h j' i' = k j' i') : zhu h j i v j' i' = zhu k j i v j' i' := by
  unfold zhu
  rw [e]
theorem zIR_u {h k : Nat → Nat → Int32} {j i : Nat} {v : Int32} (a : zIR h k) : zIR (zhu h j i v) (zhu k j i v) :=
  ⟨fun i hi => zhu_c (a.1 i hi), fun i hi => let ⟨b1, b2, b3⟩ := a.2.1 i hi; ⟨zhu_c b1, zhu_c b2, zhu_c b3⟩, fun i hi => let ⟨b1, b2, b3, b4⟩ := a.2.2.1 i hi; ⟨zhu_c b1, zhu_c b2, zhu_c b3, zhu_c b4⟩, fun i hi => let ⟨b1, b2, b3⟩ := a.2.2.2 i hi; ⟨zhu_c b1, zhu_c b2, zhu_c b3⟩⟩
theorem zWF_IR {h k : Nat → Nat → Int32} {R P N L S : Nat} (a : zIR h k) (w : zWF k R P N L S) : zWF h R P N L S := by
  obtain ⟨b1, b2, b3, b4⟩ := a
  obtain ⟨w1, w2, w3, w4, w5, w6, w7, w8, w9, w10⟩ := w
  have h12 := zRP12 w2.2.1 w2.2.2.2.1
  have hN := w2.2.2.2.2.1
  have hL := w2.2.2.2.2.2.1
  have hS := w2.2.2.2.2.2.2
  refine ⟨?_, w2, ?_, ?_, fun s hs => ?_, fun s hs => ?_, ⟨fun p hp => ?_, fun p hp q hq => ?_⟩, fun p hp => ?_, fun i hi => ?_, fun i hi => ?_⟩
  · rw [b1 0 (by omega), b1 1 (by omega), b1 3 (by omega), b1 4 (by omega), b1 6 (by omega)]; exact w1
  · rw [b1 2 (by omega)]; exact w3
  · rw [b1 5 (by omega)]; exact w4
  · rw [(b2 s (by omega)).1, (b2 s (by omega)).2.1]; exact w5 s hs
  · rw [(b2 s (by omega)).2.2]; exact w6 s hs
  · rw [(b3 p (by omega)).1]; exact w7.1 p hp
  · rw [(b3 p (by omega)).1, (b3 q (by omega)).1]; exact w7.2 p hp q hq
  · rw [(b3 p (by omega)).2.1, (b3 p (by omega)).2.2.1, (b3 p (by omega)).2.2.2]; exact w8 p hp
  · rw [(b4 i (by omega)).1]; exact w9 i hi
  · rw [(b4 i (by omega)).2.1, (b4 i (by omega)).2.2]; exact w10 i hi
theorem zrel_IR {h k : Nat → Nat → Int32} {a : Nat → Int32} {N L S : Nat} (hN : N ≤ 4) (hS : S ≤ 8) (b : zIR h k) (r : zrel k a N L S) : zrel h a N L S := by
  obtain ⟨b1, b2, b3, b4⟩ := b
  obtain ⟨r1, r2, r3, r4, r5, r6⟩ := r
  refine ⟨fun s hs => ?_, fun p hp => ?_, fun i hi => ?_, ?_, ?_, fun i hi => ?_⟩
  · rw [(b2 s hs).2.2]; exact r1 s hs
  · rw [(b3 p (by omega)).1, (b3 p (by omega)).2.1, (b3 p (by omega)).2.2.1, (b3 p (by omega)).2.2.2]; exact r2 p hp
  · rw [b1 5 (by omega)]; exact r3 i hi
  · rw [b1 2 (by omega)]; exact r4
  · rw [b1 6 (by omega)]; exact r5
  · rw [(b4 i (by omega)).2.1, (b4 i (by omega)).2.2]; exact r6 i hi
theorem zNW_IR {h k : Nat → Nat → Int32} {P M N L : Nat} (b : zIR h k) (w : zNW k P M N L) : zNW h P M N L := by
  obtain ⟨b1, b2, b3, b4⟩ := b
  obtain ⟨w1, w2, w3, w4, w5, w6, w7, w8, w9, w10⟩ := w
  refine ⟨?_, ?_, w3, w4, w5, w6, w7, fun s hs => ?_, ?_, fun p hp => ?_⟩
  · rw [b1 3 (by omega)]; exact w1
  · rw [b1 4 (by omega)]; exact w2
  · rw [(b2 s (by omega)).1, (b2 s (by omega)).2.1]; exact w8 s hs
  · rw [b1 2 (by omega)]; exact w9
  · rw [(b3 p (by omega)).1]; exact w10 p hp
theorem zcan_IR {h k : Nat → Nat → Int32} {P M N L : Nat} {aw : Nat → Bool} (b : zIR h k) (w : zNW k P M N L) {i p : Nat} {ahead : Int32} (hi : i < L) (hp : p < N) (ha : zah k aw M N ahead) : zcan h aw i ahead p = zcan k aw i ahead p := by
  obtain ⟨b1, b2, b3, b4⟩ := b
  obtain ⟨w1, w2, w3, w4, w5, w6, w7, w8, w9, w10⟩ := w
  unfold zcan
  rw [(b3 p (by omega)).1, (b3 p (by omega)).2.2.1, (b3 p (by omega)).2.2.2, (b4 i (by omega)).1]
  by_cases hz : k 4 p = -4
  · rw [decide_eq_true hz]; simp
  · obtain ⟨s, hs, e⟩ := (w10 p hp).resolve_left hz
    rw [e, nI_clamp (by omega), (b2 s (by omega)).2.2]
    rcases ha with rfl | ⟨q, hq, rfl, -, t, ht, hqt⟩
    · simp
    · have ez : zfar h s t = zfar k s t := by
        unfold zfar
        rw [(b2 s (by omega)).1, (b2 t (by omega)).1, (b2 s (by omega)).2.1, (b2 t (by omega)).2.1]
      rw [nI_clamp (show q < 2 ^ 31 by omega), (b3 q (by omega)).1, (b3 q (by omega)).2.1, hqt, nI_clamp (show t < 2 ^ 31 by omega), ez]
theorem zbest_IR {h k : Nat → Nat → Int32} {P M N L : Nat} {aw : Nat → Bool} (b : zIR h k) (w : zNW k P M N L) {i : Nat} {ahead : Int32} (hi : i < L) (ha : zah k aw M N ahead) : ∀ n, n ≤ N → zbest h aw i ahead n = zbest k aw i ahead n
  | 0, _ => rfl
  | n + 1, hn => by
    have hN := w.2.2.1
    unfold zbest
    rw [zbest_IR b w hi ha n (by omega), zcan_IR b w hi (by omega) ha, (b.2.2.1 n (by omega)).1]
    rcases zbest_in (h := k) (aw := aw) (i := i) (ahead := ahead) n with e | ⟨q, hq, e, -⟩
    · rw [e]; simp
    · rw [e, nI_clamp (show q < 2 ^ 31 by omega), (b.2.2.1 q (by omega)).1]
theorem zns_IR {h k : Nat → Nat → Int32} {P M N L : Nat} {aw cut : Nat → Bool} (b : zIR h k) (w : zNW k P M N L) : ∀ i, i ≤ L → zns h aw N cut i = zns k aw N cut i
  | 0, _ => rfl
  | i + 1, hi => by
    have ih := zns_IR (aw := aw) (cut := cut) b w i (by omega)
    have e1 : zat' h (zns h aw N cut i) i = zat' k (zns k aw N cut i) i := by
      rw [ih]
      unfold zat'
      rw [b.1 5 (by omega)]
    have e2 : zsp' h aw N cut (zat' k (zns k aw N cut i) i) i = zsp' k aw N cut (zat' k (zns k aw N cut i) i) i := by
      unfold zsp'
      rw [zbest_IR b w (by omega) (zah_at (zah_ns w i)) N (Nat.le_refl _)]
    unfold zns
    rw [e1]
    unfold znx
    rw [e2, b.1 2 (by omega)]
theorem zsp_IR {h k : Nat → Nat → Int32} {P M N L : Nat} {aw cut : Nat → Bool} (b : zIR h k) (w : zNW k P M N L) {i : Nat} (hi : i < L) : zsp h aw N cut i = zsp k aw N cut i := by
  have e1 : zat' h (zns h aw N cut i) i = zat' k (zns k aw N cut i) i := by
    rw [zns_IR b w i (by omega)]
    unfold zat'
    rw [b.1 5 (by omega)]
  unfold zsp
  rw [e1]
  unfold zsp'
  rw [zbest_IR b w hi (zah_at (zah_ns w i)) N (Nat.le_refl _)]
theorem zspn_IR {h k : Nat → Nat → Int32} {P M N L : Nat} {aw cut : Nat → Bool} (b : zIR h k) (w : zNW k P M N L) : zspn h aw N cut L = zspn k aw N cut L :=
  zct_c L fun i hi => by unfold zspk; rw [zsp_IR b w hi]
def zHG (g0 : Nat) (c g _ : Nat) : Prop := c = 1 ∧ g = g0
theorem L_copy {σ : ZS} {g g2 : Nat} (hg : g ≠ g2) : ∃ τ, zcall 7 [zA 1 g 0, zA 1 g2 0] σ = some (zI 0, τ) ∧ zfrm (zHG g) σ τ ∧ zIR (τ 1 g) (σ 1 g2) := by
  rw [E_House_copyFrom]
  refine ⟨_, rfl, ?_, ?_⟩
  · intro c g' j hn
    have h0 : ∀ j', ¬ (c = 1 ∧ g' = g ∧ j = j') := fun j' z => hn ⟨z.1, z.2.1⟩
    simp only [zcpy_o (h0 _), zup_o (h0 _)]
  · have hs : ∀ j j' : Nat, ¬ ((1 : Nat) = 1 ∧ g2 = g ∧ j = j') := fun j j' z => hg z.2.1.symm
    have hu : ∀ (υ : ZS) (j j' i : Nat) (v : Int32), zup υ 1 g j' i v 1 g2 j = υ 1 g2 j := fun υ j j' i v => zup_o (hs j j')
    have hc : ∀ (υ : ZS) (j j' n : Nat), zcpy υ 1 g2 j' 1 g j' n 1 g2 j = υ 1 g2 j := fun υ j j' n => zcpy_o (hs j j')
    refine ⟨fun i hi => ?_, fun i hi => ⟨?_, ?_, ?_⟩, fun i hi => ⟨?_, ?_, ?_, ?_⟩, fun i hi => ⟨?_, ?_, ?_⟩⟩
    all_goals
      simp only [hu, hc]
      simp [zcpy, zup, hi]
    rcases (by omega : i = 0 ∨ i = 1 ∨ i = 2 ∨ i = 3 ∨ i = 4 ∨ i = 5 ∨ i = 6) with rfl | rfl | rfl | rfl | rfl | rfl | rfl <;> rfl

/-- the trial is a copy of the house -/
theorem zHG1_s (c g j : Nat) (h : zHG 1 c g j) : zScr c g j := Or.inr (Or.inl ⟨h.1, Or.inl h.2⟩)
theorem L_trial (σ : ZS) : ∃ τ, zcall 7 [zA 1 1 0, zA 1 0 0] σ = some (zI 0, τ) ∧ zfrm (zHG 1) σ τ ∧ zIR (τ 1 1) (σ 1 0) := L_copy (by decide)
/-- a night of the trial, which is a copy of h -/
theorem L_playT {σ : ZS} {h : Nat → Nat → Int32} {P M N L : Nat} (b : zIR (σ 1 1) h) (w : zNW h P M N L) :
    ∃ τ, zcall 24 [zA 0 0 7, zA 1 1 0, zI 0, zI 0] σ = some (zI (nI (zspn h zno N zno L)), τ) ∧ zfrm zPX σ τ ∧ (∀ k, k < L → τ 0 0 8 k = zsp h zno N zno k) := by
  obtain ⟨τ, t1, t2, t3, -⟩ := L_play0 1 (zNW_IR b w)
  refine ⟨τ, ?_, t2, fun k hk => ?_⟩
  · rw [t1, zspn_IR b w]
  · rw [t3 k hk, zsp_IR b w hk]
/-- a loop of d steps from i on -/
def zit {α : Type} (f : Nat → α → α) (i : Nat) : Nat → α → α
  | 0, s => s
  | d + 1, s => zit f (i + 1) d (f i s)
theorem zit_p {α : Type} {f : Nat → α → α} {p : α → Prop} : ∀ (d i : Nat) (s : α), (∀ j, i ≤ j → j < i + d → ∀ s, p s → p (f j s)) → p s → p (zit f i d s)
  | 0, _, _, _, h => h
  | d + 1, i, s, hf, h => zit_p d (i + 1) (f i s) (fun j h1 h2 => hf j (by omega) (by omega)) (hf i (by omega) (by omega) s h)
theorem zit_e {α : Type} {f g : Nat → α → α} {p : α → Prop} : ∀ (d i : Nat) (s : α), (∀ j, i ≤ j → j < i + d → ∀ s, p s → p (f j s) ∧ f j s = g j s) → p s → zit f i d s = zit g i d s
  | 0, _, _, _, _ => rfl
  | d + 1, i, s, hf, h => by
    unfold zit
    rw [zit_e d (i + 1) (f i s) (fun j h1 h2 => hf j (by omega) (by omega)) (hf i (by omega) (by omega) s h).1, (hf i (by omega) (by omega) s h).2]
/-- the better one is kept: (how many, which) -/
def zmax (v x : Int32) (s : Int32 × Int32) : Int32 × Int32 := if s.1 < v then (v, x) else s
theorem L_which (σ : ZS) (x m w : Int32) : zcall 86 [zI x, zI w, zI m] σ = some (zI (if w = -4 then -4 else if x = 0 then w else m), σ) := by
  rw [E_S_whichOrHowMany]
  by_cases h : w = -4
  · rw [if_pos h, if_pos h, h]
    split <;> rfl
  · rw [if_neg h, if_neg h]
    split <;> rfl
/-! change -/
def ztrd (h : Nat → Nat → Int32) (p q : Nat) : Nat → Nat → Int32 := zhu (zhu h 4 p (h 4 q)) 4 q (h 4 p)
def zchI (h : Nat → Nat → Int32) (N L p q : Nat) (s : Int32 × Int32) : Int32 × Int32 := zmax (nI (zspn (ztrd h p q) zno N zno L)) (nI (10 * p + q)) s
def zchO (h : Nat → Nat → Int32) (N L p : Nat) (s : Int32 × Int32) : Int32 × Int32 := zit (zchI h N L p) (p + 1) (N - (p + 1)) s
theorem zhu_n {h : Nat → Nat → Int32} {j k j' k' : Nat} {v : Int32} (e : ¬ (j' = j ∧ k' = k)) : zhu h j k v j' k' = h j' k' := if_neg e
/-- a seat changes: what a NIGHT needs -/
theorem zNW_seat {h : Nat → Nat → Int32} {P M N L p : Nat} {v : Int32} (w : zNW h P M N L) (hv : v = -4 ∨ ∃ s, s < M ∧ v = nI s) : zNW (zhu h 4 p v) P M N L := by
  obtain ⟨w1, w2, w3, w4, w5, w6, w7, w8, w9, w10⟩ := w
  refine ⟨w1, w2, w3, w4, w5, w6, w7, w8, w9, fun q hq => ?_⟩
  by_cases e : q = p
  · rw [e, zhu_s]; exact hv
  · rw [zhu_o e]; exact w10 q hq
theorem zNW_tr {h : Nat → Nat → Int32} {P M N L p q : Nat} (w : zNW h P M N L) (hp : p < N) (hq : q < N) : zNW (ztrd h p q) P M N L :=
  zNW_seat (zNW_seat w (w.2.2.2.2.2.2.2.2.2 q hq)) (w.2.2.2.2.2.2.2.2.2 p hp)
/-- the reference's working row: one of the PEOPLE's cells changes -/
theorem zrn_p {h : Nat → Nat → Int32} {aw : Nat → Bool} {a : Nat → Int32} {N L d p : Nat} {v : Int32} (hd : d < 4) (hp : p < N) (hN : N ≤ 4) (hL : L ≤ 8) (haw : d = 0 → aw p = false) (r : zrn h aw a N L) : zrn (zhu h (4 + d) p v) aw (zru a (12 + 4 * p + d) v) N L := by
  obtain ⟨r1, r2, r3, r4⟩ := r
  refine ⟨fun s hs => ?_, fun q hq => ?_, fun i hi => ?_, ?_⟩
  · rw [zru_o (by omega), zhu_n (by omega)]; exact r1 s hs
  · obtain ⟨b1, b2, b3, b4⟩ := r2 q hq
    by_cases hqp : q = p
    · subst hqp
      rcases (by omega : d = 0 ∨ d = 1 ∨ d = 2 ∨ d = 3) with rfl | rfl | rfl | rfl
      · rw [haw rfl] at b1 ⊢
        refine ⟨?_, ?_, ?_, ?_⟩
        · rw [if_neg (by decide), zhu_s]; exact zru_s
        · rw [zru_o (by omega), zhu_n (by omega)]; exact b2
        · rw [zru_o (by omega), zhu_n (by omega)]; exact b3
        · rw [zru_o (by omega), zhu_n (by omega)]; exact b4
      · refine ⟨?_, ?_, ?_, ?_⟩
        · rw [zru_o (by omega), zhu_n (by omega)]; exact b1
        · rw [zhu_s, show 13 + 4 * q = 12 + 4 * q + 1 by omega]; exact zru_s
        · rw [zru_o (by omega), zhu_n (by omega)]; exact b3
        · rw [zru_o (by omega), zhu_n (by omega)]; exact b4
      · refine ⟨?_, ?_, ?_, ?_⟩
        · rw [zru_o (by omega), zhu_n (by omega)]; exact b1
        · rw [zru_o (by omega), zhu_n (by omega)]; exact b2
        · rw [zhu_s, show 14 + 4 * q = 12 + 4 * q + 2 by omega]; exact zru_s
        · rw [zru_o (by omega), zhu_n (by omega)]; exact b4
      · refine ⟨?_, ?_, ?_, ?_⟩
        · rw [zru_o (by omega), zhu_n (by omega)]; exact b1
        · rw [zru_o (by omega), zhu_n (by omega)]; exact b2
        · rw [zru_o (by omega), zhu_n (by omega)]; exact b3
        · rw [zhu_s, show 15 + 4 * q = 12 + 4 * q + 3 by omega]; exact zru_s
    · rw [zru_o (by omega), zru_o (by omega), zru_o (by omega), zru_o (by omega), zhu_n (by omega), zhu_n (by omega), zhu_n (by omega), zhu_n (by omega)]
      exact ⟨b1, b2, b3, b4⟩
  · rw [zru_o (by omega), zhu_n (by omega)]; exact r3 i hi
  · rw [zru_o (by omega), zhu_n (by omega)]; exact r4
theorem zMN_p {σ : ZS} {h : Nat → Nat → Int32} {aw : Nat → Bool} {P N L d p : Nat} {v : Int32} (hd : d < 4) (hp : p < N) (hN : N ≤ 4) (hL : L ≤ 8) (haw : d = 0 → aw p = false) (m : zMN σ h aw P N L) : zMN (zup σ 3 0 2 (12 + 4 * p + d) v) (zhu h (4 + d) p v) aw P N L := by
  obtain ⟨m1, m2, m3, m4, m5⟩ := m
  refine ⟨?_, ?_, ?_, fun i hi => ?_, ?_⟩
  · rw [zup_o (by decide)]; exact m1
  · rw [zup_o (by decide)]; exact m2
  · rw [zup_o (by decide)]; exact m3
  · rw [zup_o (by decide), zhu_n (by omega)]; exact m4 i hi
  · rw [zup_m]; exact zrn_p hd hp hN hL haw m5
theorem z2_s (c g j : Nat) (h : c = 3 ∧ g = 0 ∧ j = 2) : zScr c g j := Or.inr (Or.inr ⟨h.1, by omega⟩)
theorem L_changeC_40 {h : Nat → Nat → Int32} {R P N L S p : Nat} (w : zWF h R P N L S) (x : Int32) (hp : p < N) : ∀ (d q : Nat) (σ : ZS) (s : Int32 × Int32), q + d = N → p < q → σ 1 0 = h →
    ∃ τ, zev 85 40 [(0, zA 0 0 0), (1, zI x), (2, zI s.1), (3, zI s.2), (4, zI (nI p)), (5, zI (nI q))] [] σ = zev 85 22 [(0, zA 0 0 0), (1, zI x), (2, zI (zit (zchI h N L p) q d s).1), (3, zI (zit (zchI h N L p) q d s).2), (4, zI (nI (p + 1)))] [] τ ∧ zfrm zScr σ τ
  | 0, q, σ, s, hq, hpq, hh => by
    have hN : N ≤ 4 := w.2.1.2.2.2.2.1
    refine ⟨σ, ?_, zfrm_r⟩
    obtain rfl : q = N := by omega
    rw [E_S_change_40, hh, w.1.2.2.1, if_neg (nI_nlt (by omega) (by omega)), nI_1]
    rfl
  | d + 1, q, σ, s, hq, hpq, hh => by
    have hN : N ≤ 4 := w.2.1.2.2.2.2.1
    obtain ⟨τ, t1, t2, t3⟩ := L_trial σ
    rw [hh] at t3
    have t4 : zIR ((zup (zup τ 1 1 4 p (τ 1 1 4 q)) 1 1 4 q (τ 1 1 4 p)) 1 1) (ztrd h p q) := by
      rw [zup_h, zup_h, (t3.2.2.1 p (by omega)).1, (t3.2.2.1 q (by omega)).1]
      exact zIR_u (zIR_u t3)
    obtain ⟨υ, u1, u2, -⟩ := L_playT t4 (zNW_tr (zWF_NW w) hp (show q < N by omega))
    have f : zfrm zScr σ υ := zfrm_t (zfrm_up (zfrm_up (zfrm_m zHG1_s t2) (by simp [zScr])) (by simp [zScr])) (zfrm_m zPX_s u2)
    obtain ⟨ω, v1, v2⟩ := L_changeC_40 w x hp d (q + 1) υ (zchI h N L p q s) (by omega) (by omega) (by rw [zh_f f, hh])
    refine ⟨ω, ?_, zfrm_t f v2⟩
    rw [E_S_change_40, hh, w.1.2.2.1, if_pos (nI_lt (by omega) (by omega)), t1, zbV_some, L_trade 1 (by omega) (by omega), zbV_some, u1, zbI_some, nI_1]
    have e : (10 : Int32) * nI p + nI q = nI (10 * p + q) := by
      rw [show (10 : Int32) = nI 10 from rfl, pk_mul, nI_add]
    rw [e]
    unfold zit
    unfold zchI zmax at v1 ⊢
    by_cases hc : s.1 < nI (zspn (ztrd h p q) zno N zno L)
    · rw [if_pos hc]
      rw [if_pos hc] at v1 ⊢
      exact v1
    · rw [if_neg hc]
      rw [if_neg hc] at v1 ⊢
      exact v1
