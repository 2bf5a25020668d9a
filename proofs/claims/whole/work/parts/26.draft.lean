/-! text: drafts stay in order -/
def zDI (S : ZDr) : Prop :=
  (∃ R P, (1 ≤ R ∧ R ≤ 3 ∧ 2 ≤ P ∧ P ≤ 4) ∧ dH S 0 0 = nI R ∧ dH S 0 1 = nI P ∧ ∀ s, s < R * P → dH S 1 s = nI (s / P) ∧ dH S 2 s = nI (s % P)) ∧
  ((dH S 0 2 = 0 ∨ dH S 0 2 = 1) ∧ dH S 0 6 = 0) ∧ zCN S ∧
  (∃ o, o < 2 ^ dL S ∧ dH S 0 5 = nI o ∧ (0 < dL S → o.testBit 0 = true)) ∧
  (∀ s, s < 12 → dH S 3 s = -4 ∨ ∃ k, k < 6 ∧ dH S 3 s = nI k) ∧
  ((∀ p, p < dN S → dH S 4 p = -4 ∨ ∃ s, s < dz S ∧ dH S 4 p = nI s) ∧ ∀ p, p < dN S → ∀ q, q < dN S → p ≠ q → dH S 4 p = dH S 4 q → dH S 4 p = -4) ∧
  (∀ p, p < dN S → (∃ v, v < 6 ∧ dH S 5 p = nI v) ∧ (∃ v, v < 10 ∧ dH S 6 p = nI v) ∧ ∃ v, v < 16 ∧ zhib v ≤ do1 S ∧ dH S 7 p = nI v) ∧
  (∀ i, i < dL S → ∃ k, k < 6 ∧ dH S 8 i = nI k) ∧
  ((dp S < 4096 ∧ ∀ s, (dp S).testBit s = true → s < dz S) ∧ dz S ≤ 12 ∧ do1 S ≤ 4) ∧
  (dz S = 0 ∨ ∃ s, dz S = s + 1 ∧ ((dp S).testBit s = true ∨ ∃ p, p < dN S ∧ dH S 4 p = nI s)) ∧
  (do1 S = 0 ∨ ∃ p f, p < dN S ∧ f < 16 ∧ dH S 7 p = nI f ∧ zhib f = do1 S)
theorem zDI_B {S : ZDr} (h : zDI S) : zBd S := ⟨h.2.2.1.2.1, h.2.2.1.2.2.2, h.2.2.2.2.2.2.2.2.1.2.1, h.2.2.2.2.2.2.2.2.1.2.2⟩
/-- what a line makes of a draft: it stays in order, and its token is -/
def zDR (T : Nat) (r : ZP (ZDr × ZTok)) : Prop := match r with
  | .inl _ => True
  | .inr p => zDI p.1 ∧ ztokW T p.2 ∧ p.2.1 = 3
theorem zDI_shp {S : ZDr} {R P : Nat} (h : zDI S) (hR : 1 ≤ R ∧ R ≤ 3) (hP : 2 ≤ P ∧ P ≤ 4) : zDI (zshp (dH S) R P, dN S, dL S, true, ds S, dp S, dz S, do1 S) := by
  obtain ⟨-, h2, h3, h4, h5, h6, h7, h8, h9, h10, h11⟩ := h
  have e3 : ∀ j k, 3 ≤ j → zshp (dH S) R P j k = dH S j k := fun j k hj => zshp_o (Or.inl hj)
  have e0 : ∀ k, 2 ≤ k → zshp (dH S) R P 0 k = dH S 0 k := fun k hk => zshp_o (Or.inr ⟨rfl, hk⟩)
  refine ⟨⟨R, P, ⟨hR.1, hR.2, hP.1, hP.2⟩, rfl, rfl, fun s hs => ⟨?_, ?_⟩⟩, ?_, ?_, ?_, fun s hs => ?_, ⟨fun p hp => ?_, fun p hp q hq => ?_⟩, fun p hp => ?_, fun i hi => ?_, h9, ?_, ?_⟩
  · show zshp (dH S) R P 1 s = _
    unfold zshp
    rw [if_neg (by omega), if_neg (by omega), if_pos ⟨rfl, hs⟩]
  · show zshp (dH S) R P 2 s = _
    unfold zshp
    rw [if_neg (by omega), if_neg (by omega), if_neg (by omega), if_pos ⟨rfl, hs⟩]
  · show (zshp (dH S) R P 0 2 = 0 ∨ zshp (dH S) R P 0 2 = 1) ∧ zshp (dH S) R P 0 6 = 0
    rw [e0 2 (by decide), e0 6 (by decide)]; exact h2
  · show zshp (dH S) R P 0 3 = nI (dN S) ∧ dN S ≤ 4 ∧ zshp (dH S) R P 0 4 = nI (dL S) ∧ dL S ≤ 8
    rw [e0 3 (by decide), e0 4 (by decide)]; exact h3
  · show ∃ o, o < 2 ^ dL S ∧ zshp (dH S) R P 0 5 = nI o ∧ _
    rw [e0 5 (by decide)]; exact h4
  · show zshp (dH S) R P 3 s = -4 ∨ ∃ k, k < 6 ∧ zshp (dH S) R P 3 s = nI k
    rw [e3 3 s (by decide)]; exact h5 s hs
  · show zshp (dH S) R P 4 p = -4 ∨ ∃ s, s < dz S ∧ zshp (dH S) R P 4 p = nI s
    rw [e3 4 p (by decide)]; exact h6.1 p hp
  · show p ≠ q → zshp (dH S) R P 4 p = zshp (dH S) R P 4 q → zshp (dH S) R P 4 p = -4
    rw [e3 4 p (by decide), e3 4 q (by decide)]; exact h6.2 p hp q hq
  · show (∃ v, v < 6 ∧ zshp (dH S) R P 5 p = nI v) ∧ (∃ v, v < 10 ∧ zshp (dH S) R P 6 p = nI v) ∧ ∃ v, v < 16 ∧ zhib v ≤ do1 S ∧ zshp (dH S) R P 7 p = nI v
    rw [e3 5 p (by decide), e3 6 p (by decide), e3 7 p (by decide)]; exact h7 p hp
  · show ∃ k, k < 6 ∧ zshp (dH S) R P 8 i = nI k
    rw [e3 8 i (by decide)]; exact h8 i hi
  · rcases h10 with e | ⟨s, e1, e2⟩
    · exact Or.inl e
    · refine Or.inr ⟨s, e1, e2.imp_right fun ⟨p, p1, p2⟩ => ⟨p, p1, ?_⟩⟩
      show zshp (dH S) R P 4 p = nI s
      rw [e3 4 p (by decide)]; exact p2
  · rcases h11 with e | ⟨p, f, p1, p2, p3, p4⟩
    · exact Or.inl e
    · refine Or.inr ⟨p, f, p1, p2, ?_, p4⟩
      show zshp (dH S) R P 7 p = nI f
      rw [e3 7 p (by decide)]; exact p3
theorem zDI_soft {S : ZDr} (h : zDI S) : zDI (zhu (dH S) 0 2 1, dN S, dL S, dh S, true, dp S, dz S, do1 S) := by
  obtain ⟨h1, h2, h3, h4, h5, h6, h7, h8, h9, h10, h11⟩ := h
  have e : ∀ j k, ¬ (j = 0 ∧ k = 2) → zhu (dH S) 0 2 1 j k = dH S j k := fun j k hjk => zhu_n hjk
  have e3 : ∀ j k, 1 ≤ j → zhu (dH S) 0 2 1 j k = dH S j k := fun j k hj => e j k (by omega)
  refine ⟨?_, ⟨Or.inr (show zhu (dH S) 0 2 1 0 2 = 1 from zhu_s), ?_⟩, ?_, ?_, fun s hs => ?_, ⟨fun p hp => ?_, fun p hp q hq => ?_⟩, fun p hp => ?_, fun i hi => ?_, h9, ?_, ?_⟩
  · obtain ⟨R, P, r1, r2, r3, r4⟩ := h1
    refine ⟨R, P, r1, (e 0 0 (by decide)).trans r2, (e 0 1 (by decide)).trans r3, fun s hs => ⟨(e3 1 s (by decide)).trans (r4 s hs).1, (e3 2 s (by decide)).trans (r4 s hs).2⟩⟩
  · exact (e 0 6 (by decide)).trans h2.2
  · exact ⟨(e 0 3 (by decide)).trans h3.1, h3.2.1, (e 0 4 (by decide)).trans h3.2.2.1, h3.2.2.2⟩
  · obtain ⟨o, o1, o2, o3⟩ := h4
    exact ⟨o, o1, (e 0 5 (by decide)).trans o2, o3⟩
  · show zhu (dH S) 0 2 1 3 s = -4 ∨ ∃ k, k < 6 ∧ zhu (dH S) 0 2 1 3 s = nI k
    rw [e3 3 s (by decide)]; exact h5 s hs
  · show zhu (dH S) 0 2 1 4 p = -4 ∨ ∃ s, s < dz S ∧ zhu (dH S) 0 2 1 4 p = nI s
    rw [e3 4 p (by decide)]; exact h6.1 p hp
  · show p ≠ q → zhu (dH S) 0 2 1 4 p = zhu (dH S) 0 2 1 4 q → zhu (dH S) 0 2 1 4 p = -4
    rw [e3 4 p (by decide), e3 4 q (by decide)]; exact h6.2 p hp q hq
  · show (∃ v, v < 6 ∧ zhu (dH S) 0 2 1 5 p = nI v) ∧ (∃ v, v < 10 ∧ zhu (dH S) 0 2 1 6 p = nI v) ∧ ∃ v, v < 16 ∧ zhib v ≤ do1 S ∧ zhu (dH S) 0 2 1 7 p = nI v
    rw [e3 5 p (by decide), e3 6 p (by decide), e3 7 p (by decide)]; exact h7 p hp
  · show ∃ k, k < 6 ∧ zhu (dH S) 0 2 1 8 i = nI k
    rw [e3 8 i (by decide)]; exact h8 i hi
  · rcases h10 with e' | ⟨s, e1, e2⟩
    · exact Or.inl e'
    · exact Or.inr ⟨s, e1, e2.imp_right fun ⟨p, p1, p2⟩ => ⟨p, p1, (e3 4 p (by decide)).trans p2⟩⟩
  · rcases h11 with e' | ⟨p, f, p1, p2, p3, p4⟩
    · exact Or.inl e'
    · exact Or.inr ⟨p, f, p1, p2, (e3 7 p (by decide)).trans p3, p4⟩
theorem zmx_l (a b : Nat) : a ≤ zmx a b ∧ b ≤ zmx a b ∧ (zmx a b = a ∨ zmx a b = b) := by
  unfold zmx
  split <;> omega
theorem zDI_part {S : ZDr} {s k : Nat} (h : zDI S) (hs : s < 12) (hk : k < 6) : zDI (zhu (dH S) 3 s (nI k), dN S, dL S, dh S, ds S, dp S ||| 1 <<< s, zmx (dz S) (s + 1), do1 S) := by
  obtain ⟨h1, h2, h3, h4, h5, h6, h7, h8, ⟨⟨h9, h9b⟩, h9c, h9d⟩, h10, h11⟩ := h
  have e : ∀ j k', j ≠ 3 → zhu (dH S) 3 s (nI k) j k' = dH S j k' := fun j k' hj => zhu_n (by omega)
  obtain ⟨m1, m2, m3⟩ := zmx_l (dz S) (s + 1)
  refine ⟨?_, ⟨?_, ?_⟩, ?_, ?_, fun s' hs' => ?_, ⟨fun p hp => ?_, fun p hp q hq => ?_⟩, fun p hp => ?_, fun i hi => ?_, ⟨⟨?_, fun s' hs' => ?_⟩, ?_, h9d⟩, ?_, ?_⟩
  · obtain ⟨R, P, r1, r2, r3, r4⟩ := h1
    exact ⟨R, P, r1, (e 0 0 (by decide)).trans r2, (e 0 1 (by decide)).trans r3, fun s hs => ⟨(e 1 s (by decide)).trans (r4 s hs).1, (e 2 s (by decide)).trans (r4 s hs).2⟩⟩
  · show zhu (dH S) 3 s (nI k) 0 2 = 0 ∨ zhu (dH S) 3 s (nI k) 0 2 = 1
    rw [e 0 2 (by decide)]; exact h2.1
  · exact (e 0 6 (by decide)).trans h2.2
  · exact ⟨(e 0 3 (by decide)).trans h3.1, h3.2.1, (e 0 4 (by decide)).trans h3.2.2.1, h3.2.2.2⟩
  · obtain ⟨o, o1, o2, o3⟩ := h4
    exact ⟨o, o1, (e 0 5 (by decide)).trans o2, o3⟩
  · show zhu (dH S) 3 s (nI k) 3 s' = -4 ∨ ∃ k', k' < 6 ∧ zhu (dH S) 3 s (nI k) 3 s' = nI k'
    by_cases es : s' = s
    · rw [es, zhu_s]; exact Or.inr ⟨k, hk, rfl⟩
    · rw [zhu_o es]; exact h5 s' hs'
  · show zhu (dH S) 3 s (nI k) 4 p = -4 ∨ ∃ s', s' < zmx (dz S) (s + 1) ∧ zhu (dH S) 3 s (nI k) 4 p = nI s'
    rw [e 4 p (by decide)]
    exact (h6.1 p hp).imp_right fun ⟨q, q1, q2⟩ => ⟨q, by omega, q2⟩
  · show p ≠ q → zhu (dH S) 3 s (nI k) 4 p = zhu (dH S) 3 s (nI k) 4 q → zhu (dH S) 3 s (nI k) 4 p = -4
    rw [e 4 p (by decide), e 4 q (by decide)]; exact h6.2 p hp q hq
  · show (∃ v, v < 6 ∧ zhu (dH S) 3 s (nI k) 5 p = nI v) ∧ (∃ v, v < 10 ∧ zhu (dH S) 3 s (nI k) 6 p = nI v) ∧ ∃ v, v < 16 ∧ zhib v ≤ do1 S ∧ zhu (dH S) 3 s (nI k) 7 p = nI v
    rw [e 5 p (by decide), e 6 p (by decide), e 7 p (by decide)]; exact h7 p hp
  · show ∃ k', k' < 6 ∧ zhu (dH S) 3 s (nI k) 8 i = nI k'
    rw [e 8 i (by decide)]; exact h8 i hi
  · exact zor_lt (L := 12) h9 hs
  · have hs' : (dp S ||| 1 <<< s).testBit s' = true := hs'
    show s' < zmx (dz S) (s + 1)
    rw [tb_or, Bool.or_eq_true] at hs'
    rcases hs' with q | q
    · have := h9b s' q; omega
    · have := of_decide_eq_true q; omega
  · exact zmx_le h9c (by omega)
  · show zmx (dz S) (s + 1) = 0 ∨ ∃ s', zmx (dz S) (s + 1) = s' + 1 ∧ ((dp S ||| 1 <<< s).testBit s' = true ∨ ∃ p, p < dN S ∧ zhu (dH S) 3 s (nI k) 4 p = nI s')
    rcases m3 with m3 | m3
    · rw [m3]
      rcases h10 with q | ⟨s', q1, q2⟩
      · exact Or.inl q
      · refine Or.inr ⟨s', q1, ?_⟩
        rcases q2 with q2 | ⟨p, p1, p2⟩
        · left; rw [tb_or, q2, Bool.true_or]
        · right; exact ⟨p, p1, (e 4 p (by decide)).trans p2⟩
    · refine Or.inr ⟨s, m3, Or.inl ?_⟩
      rw [tb_or, decide_eq_true rfl, Bool.or_true]
  · rcases h11 with e' | ⟨p, f, p1, p2, p3, p4⟩
    · exact Or.inl e'
    · exact Or.inr ⟨p, f, p1, p2, (e 7 p (by decide)).trans p3, p4⟩
theorem zDI_line {S : ZDr} {k : Nat} {op : Bool} (h : zDI S) (hL : dL S < 8) (hk : k < 6) : zDI (zadl (dH S) (dL S) k op, dN S, dL S + 1, dh S, ds S, dp S, dz S, do1 S) := by
  obtain ⟨h1, h2, h3, h4, h5, h6, h7, h8, h9, h10, h11⟩ := h
  have e : ∀ j k', ¬ (j = 8 ∧ k' = dL S) → ¬ (j = 0 ∧ (k' = 5 ∨ k' = 4)) → zadl (dH S) (dL S) k op j k' = dH S j k' := fun j k' h1 h2 => by
    unfold zadl
    rw [zhu_n (by omega), zhu_n (by omega), zhu_n (by omega)]
  have e1 : ∀ j k', j ≠ 0 → j ≠ 8 → zadl (dH S) (dL S) k op j k' = dH S j k' := fun j k' h1 h2 => e j k' (by omega) (by omega)
  obtain ⟨o, o1, o2, o3⟩ := h4
  obtain ⟨q, z1, z2, z3, z4, z5⟩ := zopn_b (op := op) o2 o1 hL
  refine ⟨?_, ⟨?_, ?_⟩, ⟨?_, h3.2.1, ?_, ?_⟩, ⟨q, z2, ?_, fun _ => ?_⟩, fun s hs => ?_, ⟨fun p hp => ?_, fun p hp q hq => ?_⟩, fun p hp => ?_, fun i hi => ?_, h9, ?_, ?_⟩
  · obtain ⟨R, P, r1, r2, r3, r4⟩ := h1
    exact ⟨R, P, r1, (e 0 0 (by omega) (by omega)).trans r2, (e 0 1 (by omega) (by omega)).trans r3, fun s hs => ⟨(e1 1 s (by decide) (by decide)).trans (r4 s hs).1, (e1 2 s (by decide) (by decide)).trans (r4 s hs).2⟩⟩
  · show zadl (dH S) (dL S) k op 0 2 = 0 ∨ zadl (dH S) (dL S) k op 0 2 = 1
    rw [e 0 2 (by omega) (by omega)]; exact h2.1
  · exact (e 0 6 (by omega) (by omega)).trans h2.2
  · exact (e 0 3 (by omega) (by omega)).trans h3.1
  · show zadl (dH S) (dL S) k op 0 4 = nI (dL S + 1)
    unfold zadl
    rw [zhu_s]
  · show dL S + 1 ≤ 8
    omega
  · show zadl (dH S) (dL S) k op 0 5 = nI q
    unfold zadl
    rw [zhu_n (by omega), zhu_s]
    exact z1
  · by_cases c : dL S = 0
    · exact z5 c
    · rw [z3 0 (by omega)]; exact o3 (by omega)
  · show zadl (dH S) (dL S) k op 3 s = -4 ∨ ∃ k', k' < 6 ∧ zadl (dH S) (dL S) k op 3 s = nI k'
    rw [e1 3 s (by decide) (by decide)]; exact h5 s hs
  · show zadl (dH S) (dL S) k op 4 p = -4 ∨ ∃ s, s < dz S ∧ zadl (dH S) (dL S) k op 4 p = nI s
    rw [e1 4 p (by decide) (by decide)]; exact h6.1 p hp
  · show p ≠ q → zadl (dH S) (dL S) k op 4 p = zadl (dH S) (dL S) k op 4 q → zadl (dH S) (dL S) k op 4 p = -4
    rw [e1 4 p (by decide) (by decide), e1 4 q (by decide) (by decide)]; exact h6.2 p hp q hq
  · show (∃ v, v < 6 ∧ zadl (dH S) (dL S) k op 5 p = nI v) ∧ (∃ v, v < 10 ∧ zadl (dH S) (dL S) k op 6 p = nI v) ∧ ∃ v, v < 16 ∧ zhib v ≤ do1 S ∧ zadl (dH S) (dL S) k op 7 p = nI v
    rw [e1 5 p (by decide) (by decide), e1 6 p (by decide) (by decide), e1 7 p (by decide) (by decide)]; exact h7 p hp
  · have hi : i < dL S + 1 := hi
    show ∃ k', k' < 6 ∧ zadl (dH S) (dL S) k op 8 i = nI k'
    by_cases ei : i = dL S
    · refine ⟨k, hk, ?_⟩
      rw [ei]
      unfold zadl
      rw [zhu_n (by omega), zhu_n (by omega), zhu_s]
    · rw [e 8 i (by omega) (by omega)]; exact h8 i (by omega)
  · rcases h10 with e' | ⟨s, q1, q2⟩
    · exact Or.inl e'
    · exact Or.inr ⟨s, q1, q2.imp_right fun ⟨p, p1, p2⟩ => ⟨p, p1, (e1 4 p (by decide) (by decide)).trans p2⟩⟩
  · rcases h11 with e' | ⟨p, f, p1, p2, p3, p4⟩
    · exact Or.inl e'
    · exact Or.inr ⟨p, f, p1, p2, (e1 7 p (by decide) (by decide)).trans p3, p4⟩
theorem zhib_4 : ∀ m, m < 16 → zhib m ≤ 4 := by decide
theorem zDI_one {S : ZDr} {s : Int32} {v c f z : Nat} (h : zDI S) (hN : dN S < 4) (hv : v < 6) (hc : c < 10) (hf : f < 16) (hs : (s = -4 ∧ z = dz S) ∨ ∃ s', s' < 12 ∧ s = nI s' ∧ z = zmx (dz S) (s' + 1) ∧ zoc (dH S) s' (dN S) = false) : zDI (zad1 (dH S) (dN S) s v c f, dN S + 1, dL S, dh S, ds S, dp S, z, zmx (do1 S) (zhib f)) := by
  obtain ⟨h1, h2, h3, h4, h5, h6, h7, h8, ⟨⟨h9, h9b⟩, h9c, h9d⟩, h10, h11⟩ := h
  have e : ∀ j k, ¬ (4 ≤ j ∧ j ≤ 7 ∧ k = dN S) → ¬ (j = 0 ∧ k = 3) → zad1 (dH S) (dN S) s v c f j k = dH S j k := fun j k h1 h2 => by
    unfold zad1
    rw [zhu_n (by omega), zhu_n (by omega), zhu_n (by omega), zhu_n (by omega), zhu_n (by omega)]
  have a4 : zad1 (dH S) (dN S) s v c f 4 (dN S) = s := by
    unfold zad1
    rw [zhu_n (by omega), zhu_n (by omega), zhu_n (by omega), zhu_n (by omega), zhu_s]
  have a5 : zad1 (dH S) (dN S) s v c f 5 (dN S) = nI v := by
    unfold zad1
    rw [zhu_n (by omega), zhu_n (by omega), zhu_n (by omega), zhu_s]
  have a6 : zad1 (dH S) (dN S) s v c f 6 (dN S) = nI c := by
    unfold zad1
    rw [zhu_n (by omega), zhu_n (by omega), zhu_s]
  have a7 : zad1 (dH S) (dN S) s v c f 7 (dN S) = nI f := by
    unfold zad1
    rw [zhu_n (by omega), zhu_s]
  have hz : dz S ≤ z ∧ z ≤ 12 ∧ (z = 0 ∨ z = dz S ∨ ∃ s', s = nI s' ∧ z = s' + 1) ∧ (s = -4 ∨ ∃ s', s' < z ∧ s = nI s') := by
    rcases hs with ⟨q1, q2⟩ | ⟨s', q1, q2, q3, -⟩
    · exact ⟨by omega, by omega, Or.inr (Or.inl q2), Or.inl q1⟩
    · obtain ⟨m1, m2, m3⟩ := zmx_l (dz S) (s' + 1)
      refine ⟨by omega, by rw [q3]; exact zmx_le h9c (by omega), Or.inr ?_, Or.inr ⟨s', by omega, q2⟩⟩
      rcases m3 with m3 | m3
      · exact Or.inl (q3.trans m3)
      · exact Or.inr ⟨s', q2, q3.trans m3⟩
  have hns : ∀ p, p < dN S → dH S 4 p = s → s = -4 := by
    intro p hp ep
    rcases hs with ⟨q1, -⟩ | ⟨s', q1, q2, q3, q4⟩
    · exact q1
    · have := (zoc_t (h := dH S) (s := s') (dN S)).mpr ⟨p, hp, ep.trans q2⟩
      rw [q4] at this
      exact absurd this (by decide)
  obtain ⟨m1, m2, m3⟩ := zmx_l (do1 S) (zhib f)
  refine ⟨?_, ⟨?_, ?_⟩, ⟨?_, ?_, ?_, h3.2.2.2⟩, ?_, fun s' hs' => ?_, ⟨fun p hp => ?_, fun p hp q hq hpq => ?_⟩, fun p hp => ?_, fun i hi => ?_, ⟨⟨h9, fun s' hs' => ?_⟩, hz.2.1, zmx_le h9d (zhib_4 f hf)⟩, ?_, ?_⟩
  · obtain ⟨R, P, r1, r2, r3, r4⟩ := h1
    exact ⟨R, P, r1, (e 0 0 (by omega) (by omega)).trans r2, (e 0 1 (by omega) (by omega)).trans r3, fun s hs => ⟨(e 1 s (by omega) (by omega)).trans (r4 s hs).1, (e 2 s (by omega) (by omega)).trans (r4 s hs).2⟩⟩
  · show zad1 (dH S) (dN S) s v c f 0 2 = 0 ∨ zad1 (dH S) (dN S) s v c f 0 2 = 1
    rw [e 0 2 (by omega) (by omega)]; exact h2.1
  · exact (e 0 6 (by omega) (by omega)).trans h2.2
  · show zad1 (dH S) (dN S) s v c f 0 3 = nI (dN S + 1)
    unfold zad1
    rw [zhu_s]
  · show dN S + 1 ≤ 4
    omega
  · exact (e 0 4 (by omega) (by omega)).trans h3.2.2.1
  · obtain ⟨o, o1, o2, o3⟩ := h4
    exact ⟨o, o1, (e 0 5 (by omega) (by omega)).trans o2, o3⟩
  · show zad1 (dH S) (dN S) s v c f 3 s' = -4 ∨ ∃ k, k < 6 ∧ zad1 (dH S) (dN S) s v c f 3 s' = nI k
    rw [e 3 s' (by omega) (by omega)]; exact h5 s' hs'
  · have hp : p < dN S + 1 := hp
    show zad1 (dH S) (dN S) s v c f 4 p = -4 ∨ ∃ s', s' < z ∧ zad1 (dH S) (dN S) s v c f 4 p = nI s'
    by_cases ep : p = dN S
    · rw [ep, a4]; exact hz.2.2.2
    · rw [e 4 p (by omega) (by omega)]
      exact (h6.1 p (by omega)).imp_right fun ⟨q, q1, q2⟩ => ⟨q, by omega, q2⟩
  · have hp : p < dN S + 1 := hp
    have hq : q < dN S + 1 := hq
    show zad1 (dH S) (dN S) s v c f 4 p = zad1 (dH S) (dN S) s v c f 4 q → zad1 (dH S) (dN S) s v c f 4 p = -4
    by_cases ep : p = dN S
    · rw [ep, a4, e 4 q (by omega) (by omega)]
      exact fun w => hns q (by omega) w.symm
    · rw [e 4 p (by omega) (by omega)]
      by_cases eq : q = dN S
      · rw [eq, a4]
        exact fun w => by rw [w]; exact hns p (by omega) w
      · rw [e 4 q (by omega) (by omega)]
        exact h6.2 p (by omega) q (by omega) hpq
  · have hp : p < dN S + 1 := hp
    show (∃ w, w < 6 ∧ zad1 (dH S) (dN S) s v c f 5 p = nI w) ∧ (∃ w, w < 10 ∧ zad1 (dH S) (dN S) s v c f 6 p = nI w) ∧ ∃ w, w < 16 ∧ zhib w ≤ zmx (do1 S) (zhib f) ∧ zad1 (dH S) (dN S) s v c f 7 p = nI w
    by_cases ep : p = dN S
    · rw [ep, a5, a6, a7]
      exact ⟨⟨v, hv, rfl⟩, ⟨c, hc, rfl⟩, ⟨f, hf, m2, rfl⟩⟩
    · rw [e 5 p (by omega) (by omega), e 6 p (by omega) (by omega), e 7 p (by omega) (by omega)]
      obtain ⟨q1, q2, w, w1, w2, w3⟩ := h7 p (by omega)
      exact ⟨q1, q2, w, w1, by omega, w3⟩
  · show ∃ k, k < 6 ∧ zad1 (dH S) (dN S) s v c f 8 i = nI k
    rw [e 8 i (by omega) (by omega)]; exact h8 i hi
  · have := h9b s' hs'
    show s' < z
    omega
  · show z = 0 ∨ ∃ s', z = s' + 1 ∧ ((dp S).testBit s' = true ∨ ∃ p, p < dN S + 1 ∧ zad1 (dH S) (dN S) s v c f 4 p = nI s')
    rcases hz.2.2.1 with q | q | ⟨s', q1, q2⟩
    · exact Or.inl q
    · rcases h10 with w | ⟨s', w1, w2⟩
      · exact Or.inl (q.trans w)
      · refine Or.inr ⟨s', q.trans w1, w2.imp_right fun ⟨p, p1, p2⟩ => ⟨p, by omega, ?_⟩⟩
        rw [e 4 p (by omega) (by omega)]; exact p2
    · exact Or.inr ⟨s', q2, Or.inr ⟨dN S, by omega, a4.trans q1⟩⟩
  · show zmx (do1 S) (zhib f) = 0 ∨ ∃ p g, p < dN S + 1 ∧ g < 16 ∧ zad1 (dH S) (dN S) s v c f 7 p = nI g ∧ zhib g = zmx (do1 S) (zhib f)
    rcases m3 with m3 | m3
    · rw [m3]
      rcases h11 with w | ⟨p, g, p1, p2, p3, p4⟩
      · exact Or.inl w
      · refine Or.inr ⟨p, g, by omega, p2, ?_, p4⟩
        rw [e 7 p (by omega) (by omega)]; exact p3
    · exact Or.inr ⟨dN S, f, by omega, hf, a7, m3.symm⟩
