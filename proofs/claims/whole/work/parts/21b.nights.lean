/-- the seats of the movers told by a list, in house h -/
def zhl (h : Nat → Nat → Int32) (mv : Nat → Nat) : List Nat → Nat → Nat → Int32
  | [] => h
  | s :: r => zhu (zhl h mv r) 4 (mv r.length) (nI s)
theorem zhl_o {h : Nat → Nat → Int32} {mv : Nat → Nat} {j : Nat} (hj : j ≠ 4) : ∀ l, zhl h mv l j = h j
  | [] => rfl
  | s :: r => by
    funext i
    show zhu (zhl h mv r) 4 (mv r.length) (nI s) j i = _
    rw [zhu_n (by omega), zhl_o hj r]
theorem zhl_n {h : Nat → Nat → Int32} {mv : Nat → Nat} {p : Nat} : ∀ l : List Nat, (∀ j, j < l.length → mv j ≠ p) → zhl h mv l 4 p = h 4 p
  | [], _ => rfl
  | s :: r, e => by
    show zhu (zhl h mv r) 4 (mv r.length) (nI s) 4 p = _
    rw [zhu_o (fun z => e r.length (by simp) z.symm), zhl_n r (fun j hj => e j (by rw [List.length_cons]; omega))]
theorem zhl_m {h : Nat → Nat → Int32} {mv : Nat → Nat} {k j : Nat} (inj : ∀ a, a < k → ∀ b, b < k → mv a = mv b → a = b) : ∀ l : List Nat, l.length ≤ k → j < l.length → zhl h mv l 4 (mv j) = nI (zgt l j)
  | [], _, hj => absurd hj (by simp)
  | s :: r, hk, hj => by
    rw [List.length_cons] at hk hj
    show zhu (zhl h mv r) 4 (mv r.length) (nI s) 4 (mv j) = nI (if j = r.length then s else zgt r j)
    by_cases e : j = r.length
    · rw [e, zhu_s, if_pos rfl]
    · rw [if_neg e, zhu_o (fun z => e (inj j (by omega) r.length (by omega) z)), zhl_m inj r (by omega) (by omega)]
theorem zNW_l {h : Nat → Nat → Int32} {mv : Nat → Nat} {P M N L : Nat} (w : zNW h P M N L) : ∀ {l : List Nat}, zvlo M l → zNW (zhl h mv l) P M N L
  | [], _ => w
  | s :: _, hl => zNW_seat (zNW_l w hl.2) (Or.inr ⟨s, hl.1, rfl⟩)
/-! two houses that differ by idle SEATS alone -/
def zEqh (h1 h2 : Nat → Nat → Int32) (N L : Nat) : Prop := (∀ j, j ≠ 4 → h1 j = h2 j) ∧ ∀ p, p < N → h1 4 p = h2 4 p ∨ ∀ i, i < L → ∀ ahead, zcan h1 zno i ahead p = false ∧ zcan h2 zno i ahead p = false
def zgAh (h1 h2 : Nat → Nat → Int32) (N : Nat) (x : Int32) : Prop := x = -4 ∨ ∃ q, q < N ∧ x = nI q ∧ h1 4 q = h2 4 q
theorem zcan_E {h1 h2 : Nat → Nat → Int32} {N L i p : Nat} {ahead : Int32} (e : zEqh h1 h2 N L) (hN : N ≤ 4) (hi : i < L) (hp : p < N) (ha : zgAh h1 h2 N ahead) : zcan h1 zno i ahead p = zcan h2 zno i ahead p ∧ (zcan h1 zno i ahead p = true → h1 4 p = h2 4 p) := by
  rcases e.2 p hp with he | he
  · refine ⟨?_, fun _ => he⟩
    unfold zcan zfar
    rw [he, e.1 3 (by decide), e.1 8 (by decide), e.1 6 (by decide), e.1 5 (by decide), e.1 1 (by decide), e.1 2 (by decide), e.1 7 (by decide)]
    rcases ha with rfl | ⟨q, hq, rfl, hqe⟩
    · rw [decide_eq_true rfl, Bool.true_or, Bool.true_or]
    · rw [nI_clamp (show q < 2 ^ 31 by omega), hqe]
  · obtain ⟨c1, c2⟩ := he i hi ahead
    exact ⟨c1.trans c2.symm, fun z => by rw [c1] at z; exact absurd z (by decide)⟩
theorem zbest_E {h1 h2 : Nat → Nat → Int32} {N L i : Nat} {ahead : Int32} (e : zEqh h1 h2 N L) (hN : N ≤ 4) (hi : i < L) (ha : zgAh h1 h2 N ahead) : ∀ n, n ≤ N → zbest h1 zno i ahead n = zbest h2 zno i ahead n ∧ zgAh h1 h2 N (zbest h1 zno i ahead n)
  | 0, _ => ⟨rfl, Or.inl rfl⟩
  | n + 1, hn => by
    obtain ⟨b1, b2⟩ := zbest_E e hN hi ha n (by omega)
    obtain ⟨c1, c2⟩ := zcan_E e hN hi (show n < N by omega) ha
    unfold zbest
    rw [← b1, ← c1]
    cases hc : zcan h1 zno i ahead n with
    | false =>
      rw [if_neg (fun z => absurd z.1 (by decide)), if_neg (fun z => absurd z.1 (by decide))]
      exact ⟨rfl, b2⟩
    | true =>
      have hs := c2 hc
      have hq : (zbest h1 zno i ahead n = -4 ∨ h1 4 n < h1 4 (zbest h1 zno i ahead n).toNatClampNeg) ↔ (zbest h1 zno i ahead n = -4 ∨ h2 4 n < h2 4 (zbest h1 zno i ahead n).toNatClampNeg) := by
        rcases b2 with z | ⟨q, hq, z, hz⟩
        · exact ⟨fun _ => Or.inl z, fun _ => Or.inl z⟩
        · rw [z, nI_clamp (show q < 2 ^ 31 by omega), hz, hs]
      by_cases hx : zbest h1 zno i ahead n = -4 ∨ h1 4 n < h1 4 (zbest h1 zno i ahead n).toNatClampNeg
      · rw [if_pos ⟨rfl, hx⟩, if_pos ⟨rfl, hq.mp hx⟩]
        exact ⟨rfl, Or.inr ⟨n, by omega, rfl, hs⟩⟩
      · rw [if_neg (fun z => hx z.2), if_neg (fun z => hx (hq.mpr z.2))]
        exact ⟨rfl, b2⟩
theorem zat_E {h1 h2 : Nat → Nat → Int32} {N L i : Nat} {s : Int32 × Bool} (e : zEqh h1 h2 N L) (ha : zgAh h1 h2 N s.1) : zat' h1 s i = zat' h2 s i ∧ zgAh h1 h2 N (zat' h1 s i).1 := by
  unfold zat'
  rw [e.1 0 (by decide)]
  refine ⟨rfl, ?_⟩
  split
  · exact ha
  · exact Or.inl rfl
theorem zsp_E' {h1 h2 : Nat → Nat → Int32} {N L i : Nat} {s : Int32 × Bool} (e : zEqh h1 h2 N L) (hN : N ≤ 4) (hi : i < L) (ha : zgAh h1 h2 N s.1) : zsp' h1 zno N zno s i = zsp' h2 zno N zno s i ∧ zgAh h1 h2 N (zsp' h1 zno N zno s i) := by
  obtain ⟨b1, b2⟩ := zbest_E e hN hi ha N (Nat.le_refl _)
  unfold zsp'
  rw [b1] at b2 ⊢
  refine ⟨rfl, ?_⟩
  split
  · exact Or.inl rfl
  · split
    · exact Or.inl rfl
    · exact b2
theorem zns_E {h1 h2 : Nat → Nat → Int32} {N L : Nat} (e : zEqh h1 h2 N L) (hN : N ≤ 4) : ∀ i, i ≤ L → zns h1 zno N zno i = zns h2 zno N zno i ∧ zgAh h1 h2 N (zns h1 zno N zno i).1
  | 0, _ => ⟨rfl, Or.inl rfl⟩
  | i + 1, hi => by
    obtain ⟨a1, a2⟩ := zns_E e hN i (by omega)
    obtain ⟨b1, b2⟩ := zat_E (i := i) e a2
    obtain ⟨c1, c2⟩ := zsp_E' e hN (show i < L by omega) b2
    unfold zns znx
    rw [← a1, ← b1, ← c1, e.1 0 (by decide)]
    exact ⟨rfl, c2⟩
theorem zsp_E {h1 h2 : Nat → Nat → Int32} {N L i : Nat} (e : zEqh h1 h2 N L) (hN : N ≤ 4) (hi : i < L) : zsp h1 zno N zno i = zsp h2 zno N zno i := by
  obtain ⟨a1, a2⟩ := zns_E e hN i (by omega)
  obtain ⟨b1, b2⟩ := zat_E (i := i) e a2
  unfold zsp
  rw [← a1, ← b1]
  exact (zsp_E' e hN hi b2).1
theorem zspn_E {h1 h2 : Nat → Nat → Int32} {N L : Nat} (e : zEqh h1 h2 N L) (hN : N ≤ 4) : zspn h1 zno N zno L = zspn h2 zno N zno L :=
  zct_c L fun i hi => by unfold zspk; rw [zsp_E e hN hi]
/-- the parts that lines have (bits) -/
def zpm (h : Nat → Nat → Int32) : Nat → Nat
  | 0 => 0
  | i + 1 => zpm h i ||| 1 <<< (h 8 i).toNatClampNeg
/-- a SEAT that has the PART of no LINE -/
def zid (h : Nat → Nat → Int32) (L s : Nat) : Bool := decide (h 3 s = -4) || !(zpm h L).testBit (h 3 s).toNatClampNeg
theorem zpm_t {h : Nat → Nat → Int32} {i : Nat} : ∀ n, i < n → (zpm h n).testBit (h 8 i).toNatClampNeg = true
  | 0, hi => absurd hi (by omega)
  | n + 1, hi => by
    unfold zpm
    rw [tb_or]
    by_cases e : i = n
    · subst e
      rw [decide_eq_true rfl, Bool.or_true]
    · rw [zpm_t n (by omega), Bool.true_or]
theorem zpm_lt {h : Nat → Nat → Int32} {L : Nat} (hp : ∀ i, i < L → ∃ k, k < 6 ∧ h 8 i = nI k) : ∀ n, n ≤ L → zpm h n < 64
  | 0, _ => by
    show 0 < 64
    decide
  | n + 1, hn => by
    obtain ⟨k, hk, e⟩ := hp n (by omega)
    unfold zpm
    rw [e, nI_clamp (by omega)]
    exact zor_lt (L := 6) (zpm_lt hp n (by omega)) hk
theorem zid_no {h : Nat → Nat → Int32} {L s i : Nat} (hi : i < L) (hp : h 8 i ≠ -4) (hz : zid h L s = true) : h 3 s ≠ h 8 i := by
  intro e
  unfold zid at hz
  rw [e, zpm_t L hi, decide_eq_false hp] at hz
  exact absurd hz (by decide)
theorem zcan_no {h : Nat → Nat → Int32} {i p s : Nat} {ahead : Int32} (hs : h 4 p = nI s) (hs2 : s < 2 ^ 31) (hn : h 3 s ≠ h 8 i) : zcan h zno i ahead p = false := by
  unfold zcan
  rw [hs, nI_clamp hs2, decide_eq_false hn]
  simp
theorem zEqh_l {h : Nat → Nat → Int32} {mv : Nat → Nat} {k M N L : Nat} (inj : ∀ a, a < k → ∀ b, b < k → mv a = mv b → a = b) (hM : M ≤ 12) (hp : ∀ i, i < L → h 8 i ≠ -4) {x y : List Nat} (gx : zgd M x = true) (gy : zgd M y = true) (hx : x.length ≤ k) (hq : zqv (zid h L) x y) : zEqh (zhl h mv x) (zhl h mv y) N L := by
  have hl := zqv_l hq
  refine ⟨fun j hj => by rw [zhl_o hj, zhl_o hj], fun p _ => ?_⟩
  by_cases hm : ∃ j, j < x.length ∧ mv j = p
  · obtain ⟨j, hj, rfl⟩ := hm
    have ex := zhl_m (h := h) (j := j) inj x hx hj
    have ey := zhl_m (h := h) (j := j) inj y (by omega) (by omega)
    rcases zgt_q (j := j) hq with e | ⟨e1, e2⟩
    · left; rw [ex, ey, e]
    · right
      intro i hi ahead
      have l1 := zgt_lt gx hj
      have l2 := zgt_lt gy (show j < y.length by omega)
      refine ⟨zcan_no ex (by omega) ?_, zcan_no ey (by omega) ?_⟩
      · rw [zhl_o (by decide), zhl_o (by decide)]; exact zid_no hi (hp i hi) e1
      · rw [zhl_o (by decide), zhl_o (by decide)]; exact zid_no hi (hp i hi) e2
  · left
    rw [zhl_n x (fun j hj e => hm ⟨j, hj, e⟩), zhl_n y (fun j hj e => hm ⟨j, by omega, e⟩)]
