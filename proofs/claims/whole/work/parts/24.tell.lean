/-! text: what a line tells; the class -/
def zbn {α β : Type} (r : ZP α) (k : α → ZP β) : ZP β := match r with
  | .inl q => .inl q
  | .inr a => k a
def zchk (t : ZTok) (lo hi : Nat) : ZP Nat := if t.1 = 2 then (if lo ≤ t.2.2.2 ∧ t.2.2.2 ≤ hi then .inr t.2.2.2 else .inl (3, t.2.1)) else .inl (2, t.2.1)
def znum (b : Nat → Nat) (T i lo hi : Nat) : ZP (Nat × ZTok) := zbn (ztok b T i) fun t => zbn (zchk t lo hi) fun v => .inr (v, t)
def zsgn (b : Nat → Nat) (T i : Nat) : ZP ZTok := zbn (ztok b T i) fun t => if t.1 = 3 then .inr t else .inl (2, t.2.1)
/-- feuds: how many more at most, the token, those told -/
def zfeu (b : Nat → Nat) (T : Nat) : Nat → ZTok → Nat → ZP (Nat × ZTok)
  | 0, _, _ => .inl (0, 0)
  | n + 1, t, m => if t.1 = 3 then .inr (m, t) else zbn (zchk t 0 3) fun q => if m.testBit q = true then .inl (4, t.2.1) else zbn (ztok b T t.2.2.1) fun t2 => zfeu b T n t2 (m ||| 1 <<< q)
/-- a draft: house, PEOPLE, LINES, house told, soft told, parts told (bits), one more than the highest SEAT, than the highest ONE -/
abbrev ZDr : Type := (Nat → Nat → Int32) × Nat × Nat × Bool × Bool × Nat × Nat × Nat
abbrev dH (S : ZDr) : Nat → Nat → Int32 := S.1
abbrev dN (S : ZDr) : Nat := S.2.1
abbrev dL (S : ZDr) : Nat := S.2.2.1
abbrev dh (S : ZDr) : Bool := S.2.2.2.1
abbrev ds (S : ZDr) : Bool := S.2.2.2.2.1
abbrev dp (S : ZDr) : Nat := S.2.2.2.2.2.1
abbrev dz (S : ZDr) : Nat := S.2.2.2.2.2.2.1
abbrev do1 (S : ZDr) : Nat := S.2.2.2.2.2.2.2
def zmx (a b : Nat) : Nat := if a < b then b else a
/-- one more than the highest bit -/
def zhib (m : Nat) : Nat := if m < 1 then 0 else if m < 2 then 1 else if m < 4 then 2 else if m < 8 then 3 else 4
def zshp (H : Nat → Nat → Int32) (R P : Nat) : Nat → Nat → Int32 := fun j k => if j = 0 ∧ k = 0 then nI R else if j = 0 ∧ k = 1 then nI P else if j = 1 ∧ k < R * P then nI (k / P) else if j = 2 ∧ k < R * P then nI (k % P) else H j k
def zad1 (H : Nat → Nat → Int32) (N : Nat) (s : Int32) (v c f : Nat) : Nat → Nat → Int32 := zhu (zhu (zhu (zhu (zhu H 4 N s) 5 N (nI v)) 6 N (nI c)) 7 N (nI f)) 0 3 (nI (N + 1))
def zopn (H : Nat → Nat → Int32) (L : Nat) (op : Bool) : Int32 := if op = true ∨ L = 0 then H 0 5 ||| (1 <<< (nI L &&& 31)) else H 0 5 &&& ((1 <<< (nI L &&& 31)) ^^^ (-1))
def zadl (H : Nat → Nat → Int32) (L k : Nat) (op : Bool) : Nat → Nat → Int32 := zhu (zhu (zhu H 8 L (nI k)) 0 5 (zopn H L op)) 0 4 (nI (L + 1))
def zlHouse (b : Nat → Nat) (T : Nat) (t : ZTok) (S : ZDr) : ZP (ZDr × ZTok) := if dh S = true then .inl (4, t.2.1) else zbn (znum b T t.2.2.1 1 3) fun p => zbn (znum b T p.2.2.2.1 2 4) fun q => zbn (zsgn b T q.2.2.2.1) fun g => .inr ((zshp (dH S) p.1 q.1, dN S, dL S, true, ds S, dp S, dz S, do1 S), g)
def zlPart (b : Nat → Nat) (T : Nat) (t : ZTok) (S : ZDr) : ZP (ZDr × ZTok) := zbn (znum b T t.2.2.1 0 11) fun p => if (dp S).testBit p.1 = true then .inl (4, p.2.2.1) else zbn (znum b T p.2.2.2.1 0 5) fun q => zbn (zsgn b T q.2.2.2.1) fun g => .inr ((zhu (dH S) 3 p.1 (nI q.1), dN S, dL S, dh S, ds S, dp S ||| 1 <<< p.1, zmx (dz S) (p.1 + 1), do1 S), g)
def zlOne2 (b : Nat → Nat) (T i : Nat) (S : ZDr) (s : Int32) (z : Nat) : ZP (ZDr × ZTok) := zbn (znum b T i 0 5) fun p => zbn (znum b T p.2.2.2.1 0 9) fun q => zbn (ztok b T q.2.2.2.1) fun t => zbn (zfeu b T 5 t 0) fun f => .inr ((zad1 (dH S) (dN S) s p.1 q.1 f.1, dN S + 1, dL S, dh S, ds S, dp S, z, zmx (do1 S) (zhib f.1)), f.2)
def zlOne (b : Nat → Nat) (T : Nat) (t : ZTok) (S : ZDr) (here : Bool) : ZP (ZDr × ZTok) := if 4 ≤ dN S then .inl (5, t.2.1) else if here = true then (zbn (znum b T t.2.2.1 0 11) fun p => if zoc (dH S) p.1 (dN S) = true then .inl (4, p.2.2.1) else zlOne2 b T p.2.2.2.1 S (nI p.1) (zmx (dz S) (p.1 + 1))) else zlOne2 b T t.2.2.1 S (-4) (dz S)
def zlLine (b : Nat → Nat) (T : Nat) (t : ZTok) (S : ZDr) (op : Bool) : ZP (ZDr × ZTok) := if 8 ≤ dL S then .inl (5, t.2.1) else zbn (znum b T t.2.2.1 0 5) fun p => zbn (zsgn b T p.2.2.2.1) fun g => .inr ((zadl (dH S) (dL S) p.1 op, dN S, dL S + 1, dh S, ds S, dp S, dz S, do1 S), g)
def zlSoft (b : Nat → Nat) (T : Nat) (t : ZTok) (S : ZDr) : ZP (ZDr × ZTok) := if ds S = true then .inl (4, t.2.1) else zbn (zsgn b T t.2.2.1) fun g => .inr ((zhu (dH S) 0 2 1, dN S, dL S, dh S, true, dp S, dz S, do1 S), g)
/-! names -/
def zwc (g j : Nat) : Nat := ((zST g).toList.getD j 'a').toNat
def zwn (g : Nat) : Nat := (zST g).length
def zwm (b : Nat → Nat) (s g : Nat) : Nat → Bool
  | 0 => true
  | n + 1 => zwm b s g n && decide (b (s + n) = zwc g n)
def zis (b : Nat → Nat) (t : ZTok) (g : Nat) : Bool := decide (t.1 = 1) && (decide (t.2.2.1 - t.2.1 = zwn g) && zwm b t.2.1 g (zwn g))
def zline (b : Nat → Nat) (T : Nat) (t : ZTok) (S : ZDr) : ZP (ZDr × ZTok) :=
  if zis b t 0 = true then zlHouse b T t S else if zis b t 1 = true then zlPart b T t S else if zis b t 2 = true then zlOne b T t S true else if zis b t 3 = true then zlOne b T t S false
  else if zis b t 4 = true then zlLine b T t S false else if zis b t 5 = true then zlLine b T t S true else if zis b t 6 = true then zlSoft b T t S else .inl (2, t.2.1)
theorem zwc_lt : ∀ g, g < 7 → ∀ j, j < zwn g → zwc g j < 128 := by decide
theorem zwn_lt : ∀ g, g < 7 → 3 ≤ zwn g ∧ zwn g < 6 := by decide
def zKs (σ : ZS) : Prop := ∀ i, i < 7 → σ 6 i 0 1 = 0 ∧ σ 6 i 2 0 = nI (zwn i) ∧ ∀ j, j < zwn i → σ 6 i 1 j = nI (zwc i j)
theorem zKs_o {σ : ZS} (a8 : zKo σ) : zKs σ := a8.2
theorem L_length {σ : ZS} {g : Nat} (k : zKs σ) (hg : g < 7) : zcall 207 [zA 6 g 0] σ = some (zI (nI (zwn g)), σ) := by
  obtain ⟨k1, k2, k3⟩ := k g hg
  have hn := (zwn_lt g hg).2
  have hs : ∀ n, n < 6 → (nI n) >>> ((0 : Int32) &&& 31) = nI n := by decide
  rw [E_String_length, E_String_coder, k1, if_pos (by decide), zbI_some, k2, hs _ hn]
theorem zch128 : ∀ c, c < 128 → ((nI c &&& 255).toUInt32 % 65536).toInt32 = nI c ∧ ((nI c).toUInt32 % 65536).toInt32 = nI c := by decide +kernel
theorem L_charAt {σ : ZS} {g j : Nat} (k : zKs σ) (hg : g < 7) (hj : j < zwn g) : zcall 209 [zA 6 g 0, zI (nI j)] σ = some (zI (nI (zwc g j)), σ) := by
  obtain ⟨k1, k2, k3⟩ := k g hg
  have hn := (zwn_lt g hg).2
  obtain ⟨c1, c2⟩ := zch128 _ (zwc_lt g hg j hj)
  rw [E_String_charAt, E_String_isLatin1, k1, if_pos rfl, zbI_some, if_neg (by decide), E_Latin_charAt, E_String_checkIndex, k2, E_Precond_checkIndex, if_neg (nI_pos (by omega)), if_pos (nI_lt hj (by omega)), zbI_some, zbV_some, k2, nI_clamp (show zwn g < 2 ^ 31 by omega), nI_clamp (show j < 2 ^ 31 by omega), zck_nI hj (by omega), k3 j hj, c1, c2, if_pos rfl, zbI_some, c2, if_pos rfl]
theorem L_name28 {σ : ZS} {b : Nat → Nat} {T g s : Nat} (h : zTpB σ b T) (k : zKs σ) (hg : g < 7) (hs : s + zwn g ≤ T) (e7 : σ 0 0 4 7 = nI s) : ∀ d n : Nat, n + d = zwn g → zwm b s g n = true → zev 36 28 [(0, zA 0 0 4), (1, zA 6 g 0), (2, zI (nI n))] [] σ = some (zI (zb (zwm b s g (zwn g))), σ)
  | 0, n, hn, hw => by
    have hl := (zwn_lt g hg).2
    rw [show n = zwn g by omega] at hw ⊢
    rw [E_Reader_isName_28, L_length k hg, zbI_some, if_neg (nI_nlt (Nat.le_refl _) (by omega)), hw]
    rfl
  | d + 1, n, hn, hw => by
    have hl := (zwn_lt g hg).2
    have hT := h.2.1
    obtain ⟨e6, eb⟩ := h.2.2 (s + n) (by omega)
    have hc := zwc_lt g hg n (by omega)
    have ew : zwm b s g (n + 1) = (zwm b s g n && decide (b (s + n) = zwc g n)) := rfl
    rw [hw, Bool.true_and] at ew
    rw [E_Reader_isName_28, L_length k hg, zbI_some, if_pos (nI_lt (by omega) (by omega)), e7, nI_add, zck_nI (by omega) (by decide), L_charAt k hg (by omega), zbI_some, nI_clamp (by omega), e6, nI_1]
    by_cases c : b (s + n) = zwc g n
    · rw [if_pos (by rw [c])]
      exact L_name28 h k hg hs e7 d (n + 1) (by omega) (by rw [ew]; exact decide_eq_true c)
    · rw [if_neg (nI_ne c (by omega) (by omega))]
      have hf : ∀ m, n < m → zwm b s g m = false := by
        intro m hm
        induction m with
        | zero => omega
        | succ m ih =>
          show (zwm b s g m && decide (b (s + m) = zwc g m)) = false
          by_cases e : m = n
          · rw [e, decide_eq_false c, Bool.and_false]
          · rw [ih (by omega), Bool.false_and]
      rw [hf _ (by omega)]
      rfl
theorem L_isName {σ : ZS} {b : Nat → Nat} {T g : Nat} {t : ZTok} (h : zTpB σ b T) (k : zKs σ) (hg : g < 7) (ht : zTc σ t) (hw : ztokW T t) : zcall 36 [zA 0 0 4, zA 6 g 0] σ = some (zI (zb (zis b t g)), σ) := by
  have hT := h.2.1
  obtain ⟨t1, t2, t3, t4, -⟩ := ht
  obtain ⟨w1, w2, w3, -⟩ := hw
  have hl := (zwn_lt g hg).2
  unfold zis
  rw [E_Reader_isName, t3, t2, t4]
  by_cases c1 : t.1 = 1
  · rw [if_pos (by rw [c1]; rfl), L_length k hg, zbI_some, decide_eq_true c1, Bool.true_and, pk_sub w2]
    by_cases c2 : t.2.2.1 - t.2.1 = zwn g
    · rw [if_pos (by rw [c2]), decide_eq_true c2, Bool.true_and]
      exact L_name28 h k hg (by omega) t4 (zwn g) 0 (by omega) rfl
    · rw [if_neg (nI_ne c2 (by omega) (by omega)), decide_eq_false c2, Bool.false_and]
      rfl
  · rw [if_neg (show ¬ nI t.1 = 1 from nI_ne c1 (by omega) (by decide)), decide_eq_false c1, Bool.false_and]
    rfl
/-! numbers, the sign -/
theorem L_within {σ : ZS} {t : ZTok} {lo hi : Nat} (ht : zTc σ t) (hw : t.1 < 4 ∧ (t.1 = 2 → t.2.2.2 < 100)) (hl : lo < 2 ^ 31) (hh : hi < 2 ^ 31) : ∃ v τ, zcall 39 [zA 0 0 4, zI (nI lo), zI (nI hi)] σ = some (zI v, τ) ∧ zKp σ τ ∧ match zchk t lo hi with
    | .inl q => zFc τ q ∧ v = 0
    | .inr n => zTc τ t ∧ v = nI n := by
  obtain ⟨t1, t2, t3, t4, t5⟩ := id ht
  unfold zchk
  rw [E_Reader_numberWithin, t3]
  by_cases c1 : t.1 = 2
  · have e8 := t5 c1
    rw [if_pos (by rw [c1]; rfl), if_pos c1, L_fail0, zbV_some, e8, L_isIn, zbI_some, zif_b, zin2_n (by have := hw.2 c1; omega) hl hh]
    by_cases c2 : lo ≤ t.2.2.2 ∧ t.2.2.2 ≤ hi
    · rw [if_pos (by rw [decide_eq_true c2.1, decide_eq_true c2.2]; rfl), if_pos c2, L_fail0, zbV_some, if_pos t1, e8]
      exact ⟨_, σ, rfl, zKp_r σ, ht, rfl⟩
    · obtain ⟨τ, f1, f2, f3⟩ := L_fail1 (f := 3) t1 t4 (by decide) (by decide)
      rw [if_neg (fun z => c2 (by simpa using z)), if_neg c2]
      rw [show zcall 34 [zA 0 0 4, zI 1, zI 3] σ = _ from f1, zbV_some, if_neg f3.2.1]
      exact ⟨_, τ, rfl, f2, f3, rfl⟩
  · obtain ⟨τ, f1, f2, f3⟩ := L_fail1 (f := 2) t1 t4 (by decide) (by decide)
    rw [if_neg (show ¬ nI t.1 = 2 from nI_ne c1 (by omega) (by decide)), if_neg c1]
    rw [show zcall 34 [zA 0 0 4, zI 1, zI 2] σ = _ from f1, zbV_some, L_isIn, zbI_some, zif_b, L_fail0, L_failF f3.2.1, zbV_some, if_neg f3.2.1]
    split <;> exact ⟨_, τ, rfl, f2, f3, rfl⟩
theorem L_withinF {σ : ZS} (h : ¬ σ 0 0 4 3 = 0) (x y : Int32) : zcall 39 [zA 0 0 4, zI x, zI y] σ = some (zI 0, σ) := by
  rw [E_Reader_numberWithin]
  simp only [L_failF h, zbV_some, L_isIn, zbI_some, zif_b, if_neg h]
  split <;> split <;> rfl
def zNR (τ : ZS) (v : Int32) (r : ZP (Nat × ZTok)) : Prop := match r with
  | .inl q => zFc τ q ∧ v = 0
  | .inr p => zTc τ p.2 ∧ v = nI p.1
theorem L_num {b : Nat → Nat} {T i lo hi : Nat} {σ : ZS} (h : zTpB σ b T) (h0 : σ 0 0 4 3 = 0) (hi' : i ≤ T) (e : σ 0 0 4 5 = nI i) (hl : lo < 2 ^ 31) (hh : hi < 2 ^ 31) : ∃ v τ, zcall 38 [zA 0 0 4, zI (nI lo), zI (nI hi)] σ = some (zI v, τ) ∧ zKp σ τ ∧ zNR τ v (znum b T i lo hi) := by
  obtain ⟨τ, t1, t2, t3⟩ := L_takeC h h0 hi' e
  have hw := @ztok_w b T i
  rw [E_Reader_takeNumber, t1, zbV_some]
  unfold znum
  cases hz : ztok b T i with
  | inl q =>
    rw [hz] at t3
    rw [L_withinF t3.2.1, zbI_some]
    exact ⟨_, τ, rfl, t2, t3, rfl⟩
  | inr t =>
    rw [hz] at t3
    have w := hw hi' (fun j hj => (h.2.2 j hj).2) hz
    obtain ⟨v, υ, u1, u2, u3⟩ := L_within (lo := lo) (hi := hi) t3 ⟨w.1, w.2.2.2.1⟩ hl hh
    rw [u1, zbI_some]
    refine ⟨v, υ, rfl, zKp_t t2 u2, ?_⟩
    show zNR υ v (zbn (zchk t lo hi) fun v => .inr (v, t))
    cases hc : zchk t lo hi with
    | inl q => rw [hc] at u3; exact u3
    | inr n => rw [hc] at u3; exact u3
theorem L_numF {σ : ZS} (h : ¬ σ 0 0 4 3 = 0) (x y : Int32) : zcall 38 [zA 0 0 4, zI x, zI y] σ = some (zI 0, σ) := by
  rw [E_Reader_takeNumber, L_takeF h, zbV_some, L_withinF h, zbI_some]
theorem L_sgn {b : Nat → Nat} {T i : Nat} {σ : ZS} (h : zTpB σ b T) (h0 : σ 0 0 4 3 = 0) (hi' : i ≤ T) (e : σ 0 0 4 5 = nI i) : ∃ τ, zcall 40 [zA 0 0 4] σ = some (zI 0, τ) ∧ zKp σ τ ∧ zTR τ (zsgn b T i) := by
  obtain ⟨τ, t1, t2, t3⟩ := L_takeC h h0 hi' e
  have hw := @ztok_w b T i
  rw [E_Reader_takeSign, t1, zbV_some]
  unfold zsgn
  cases hz : ztok b T i with
  | inl q =>
    rw [hz] at t3
    rw [L_failF t3.2.1, L_failF t3.2.1, zbV_some]
    refine ⟨τ, ?_, t2, t3⟩
    split <;> rfl
  | inr t =>
    rw [hz] at t3
    have w := hw hi' (fun j hj => (h.2.2 j hj).2) hz
    obtain ⟨a1, a2, a3, a4, a5⟩ := id t3
    rw [a3]
    show ∃ τ', _ ∧ _ ∧ zTR τ' (if t.1 = 3 then .inr t else .inl (2, t.2.1))
    by_cases c : t.1 = 3
    · rw [if_pos (by rw [c]; rfl), if_pos c, L_fail0, zbV_some]
      exact ⟨τ, rfl, t2, t3⟩
    · obtain ⟨υ, f1, f2, f3⟩ := L_fail1 (f := 2) a1 a4 (by decide) (by decide)
      rw [if_neg (show ¬ nI t.1 = 3 from nI_ne c (by have := w.1; omega) (by decide)), if_neg c]
      rw [show zcall 34 [zA 0 0 4, zI 1, zI 2] τ = _ from f1, zbV_some]
      exact ⟨υ, rfl, zKp_t t2 f2, f3⟩
theorem L_sgnF {σ : ZS} (h : ¬ σ 0 0 4 3 = 0) : zcall 40 [zA 0 0 4] σ = some (zI 0, σ) := by
  rw [E_Reader_takeSign, L_takeF h, zbV_some, L_failF h, L_failF h, zbV_some]
  split <;> rfl
