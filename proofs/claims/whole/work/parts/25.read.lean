/-! text: what a line tells; the reference -/
def zrd (b : Nat → Nat) (T : Nat) (t : ZTok) (lo hi : Nat) : ZP (Nat × ZTok) := zbn (zchk t lo hi) fun v => zbn (ztok b T t.2.2.1) fun t2 => .inr (v, t2)
def zfeM (b : Nat → Nat) (T : Nat) : Nat → ZTok → Nat → ZP (Nat × ZTok)
  | 0, _, _ => .inl (0, 0)
  | n + 1, t, m => if t.1 = 2 then zbn (zchk t 0 3) fun q => if m.testBit q = true then .inl (4, t.2.1) else zbn (ztok b T t.2.2.1) fun t2 => zfeM b T n t2 (m ||| 1 <<< q) else .inr (m, t)
def zse (p : ZDr × ZTok) : ZP (ZDr × ZTok) := if p.2.1 = 3 then .inr p else .inl (2, p.2.2.1)
def rHouse (b : Nat → Nat) (T : Nat) (t : ZTok) (S : ZDr) : ZP (ZDr × ZTok) := zbn (zrd b T t 1 3) fun p => zbn (zrd b T p.2 2 4) fun q => .inr ((zshp (dH S) p.1 q.1, dN S, dL S, true, ds S, dp S, dz S, do1 S), q.2)
def rPart (b : Nat → Nat) (T : Nat) (t : ZTok) (S : ZDr) : ZP (ZDr × ZTok) := zbn (zchk t 0 11) fun s => if (dp S).testBit s = true then .inl (4, t.2.1) else zbn (ztok b T t.2.2.1) fun t2 => zbn (zrd b T t2 0 5) fun q => .inr ((zhu (dH S) 3 s (nI q.1), dN S, dL S, dh S, ds S, dp S ||| 1 <<< s, zmx (dz S) (s + 1), do1 S), q.2)
def rOne2 (b : Nat → Nat) (T : Nat) (t : ZTok) (S : ZDr) (s : Int32) (z : Nat) : ZP (ZDr × ZTok) := zbn (zrd b T t 0 5) fun p => zbn (zrd b T p.2 0 9) fun q => zbn (zfeM b T 5 q.2 0) fun f => .inr ((zad1 (dH S) (dN S) s p.1 q.1 f.1, dN S + 1, dL S, dh S, ds S, dp S, z, zmx (do1 S) (zhib f.1)), f.2)
def rOne (b : Nat → Nat) (T : Nat) (t : ZTok) (S : ZDr) (here : Bool) : ZP (ZDr × ZTok) := if here = true then (zbn (zchk t 0 11) fun s => if zoc (dH S) s (dN S) = true then .inl (4, t.2.1) else zbn (ztok b T t.2.2.1) fun t2 => rOne2 b T t2 S (nI s) (zmx (dz S) (s + 1))) else rOne2 b T t S (-4) (dz S)
def rLine (b : Nat → Nat) (T : Nat) (t : ZTok) (S : ZDr) (op : Bool) : ZP (ZDr × ZTok) := zbn (zrd b T t 0 5) fun p => .inr ((zadl (dH S) (dL S) p.1 op, dN S, dL S + 1, dh S, ds S, dp S, dz S, do1 S), p.2)
def rSoft (t : ZTok) (S : ZDr) : ZP (ZDr × ZTok) := .inr ((zhu (dH S) 0 2 1, dN S, dL S, dh S, true, dp S, dz S, do1 S), t)
theorem zbn_a {α β γ : Type} (r : ZP α) (f : α → ZP β) (g : β → ZP γ) : zbn (zbn r f) g = zbn r fun a => zbn (f a) g := by
  cases r <;> rfl
theorem zsgn_e {b : Nat → Nat} {T i : Nat} {S : ZDr} : (zbn (zsgn b T i) fun g => .inr (S, g) : ZP (ZDr × ZTok)) = zbn (ztok b T i) fun t => zse (S, t) := by
  unfold zsgn
  rw [zbn_a]
  congr 1
  funext t
  unfold zse
  by_cases c : t.1 = 3
  · rw [if_pos c, if_pos c]; rfl
  · rw [if_neg c, if_neg c]; rfl
theorem zeHouse (b : Nat → Nat) (T : Nat) (t : ZTok) (S : ZDr) : zlHouse b T t S = if dh S = true then .inl (4, t.2.1) else zbn (ztok b T t.2.2.1) fun t1 => zbn (rHouse b T t1 S) zse := by
  unfold zlHouse rHouse znum zrd
  congr 1
  simp only [zbn_a, zsgn_e]
  rfl
theorem zePart (b : Nat → Nat) (T : Nat) (t : ZTok) (S : ZDr) : zlPart b T t S = zbn (ztok b T t.2.2.1) fun t1 => zbn (rPart b T t1 S) zse := by
  unfold zlPart rPart znum zrd
  simp only [zbn_a, zsgn_e]
  congr 1
  funext t1
  congr 1
  funext s
  show (if (dp S).testBit s = true then _ else _) = zbn (if (dp S).testBit s = true then _ else _) zse
  by_cases c : (dp S).testBit s = true
  · rw [if_pos c, if_pos c]; rfl
  · rw [if_neg c, if_neg c]
    simp only [zbn_a]
    rfl
theorem zfe_e {b : Nat → Nat} {T : Nat} {F : Nat → ZDr} : ∀ (n : Nat) (t : ZTok) (m : Nat), (zbn (zfeM b T n t m) fun f => zse (F f.1, f.2)) = zbn (zfeu b T n t m) fun f => .inr (F f.1, f.2)
  | 0, _, _ => rfl
  | n + 1, t, m => by
    unfold zfeM zfeu
    by_cases c2 : t.1 = 2
    · have c3 : ¬ t.1 = 3 := by omega
      rw [if_pos c2, if_neg c3, zbn_a, zbn_a]
      congr 1
      funext q
      by_cases c : m.testBit q = true
      · rw [if_pos c, if_pos c]; rfl
      · rw [if_neg c, if_neg c, zbn_a, zbn_a]
        congr 1
        funext t2
        exact zfe_e n t2 _
    · rw [if_neg c2]
      show zse (F m, t) = _
      unfold zse
      by_cases c3 : t.1 = 3
      · rw [if_pos c3, if_pos c3]; rfl
      · rw [if_neg c3, if_neg c3]
        unfold zchk
        rw [if_neg c2]
        rfl
theorem zeOne2 (b : Nat → Nat) (T i : Nat) (S : ZDr) (s : Int32) (z : Nat) : zlOne2 b T i S s z = zbn (ztok b T i) fun t1 => zbn (rOne2 b T t1 S s z) zse := by
  unfold zlOne2 rOne2 znum zrd
  simp only [zbn_a]
  congr 1
  funext t1
  congr 1
  funext p
  show (zbn (ztok b T t1.2.2.1) _) = zbn (ztok b T t1.2.2.1) _
  congr 1
  funext t2
  congr 1
  funext q
  show (zbn (ztok b T t2.2.2.1) _) = zbn (ztok b T t2.2.2.1) _
  congr 1
  funext t3
  exact (zfe_e (F := fun f => (zad1 (dH S) (dN S) s p q f, dN S + 1, dL S, dh S, ds S, dp S, z, zmx (do1 S) (zhib f))) 5 t3 0).symm
theorem zeOne (b : Nat → Nat) (T : Nat) (t : ZTok) (S : ZDr) (here : Bool) : zlOne b T t S here = if 4 ≤ dN S then .inl (5, t.2.1) else zbn (ztok b T t.2.2.1) fun t1 => zbn (rOne b T t1 S here) zse := by
  unfold zlOne rOne
  congr 1
  cases here with
  | false =>
    simp only [Bool.false_eq_true, if_false]
    exact zeOne2 b T t.2.2.1 S (-4) (dz S)
  | true =>
    simp only [if_true]
    unfold znum
    simp only [zbn_a]
    congr 1
    funext t1
    congr 1
    funext s
    show (if zoc (dH S) s (dN S) = true then _ else _) = zbn (if zoc (dH S) s (dN S) = true then _ else _) zse
    by_cases c : zoc (dH S) s (dN S) = true
    · rw [if_pos c, if_pos c]; rfl
    · rw [if_neg c, if_neg c, zbn_a]
      exact zeOne2 b T t1.2.2.1 S (nI s) (zmx (dz S) (s + 1))
theorem zeLine (b : Nat → Nat) (T : Nat) (t : ZTok) (S : ZDr) (op : Bool) : zlLine b T t S op = if 8 ≤ dL S then .inl (5, t.2.1) else zbn (ztok b T t.2.2.1) fun t1 => zbn (rLine b T t1 S op) zse := by
  unfold zlLine rLine znum zrd
  congr 1
  simp only [zbn_a, zsgn_e]
  rfl
theorem zeSoft (b : Nat → Nat) (T : Nat) (t : ZTok) (S : ZDr) : zlSoft b T t S = if ds S = true then .inl (4, t.2.1) else zbn (ztok b T t.2.2.1) fun t1 => zbn (rSoft t1 S) zse := by
  unfold zlSoft rSoft
  congr 1
  rw [zsgn_e]
  rfl
/-! names -/
theorem L_is3 {σ : ZS} {b : Nat → Nat} {T : Nat} {t : ZTok} (h : zTpM σ b T) (ht : zTm σ t) (hw : ztokW T t) {n a0 a1 a2 : Nat} (hn : 3 ≤ n) (hn6 : n < 6) (h0 : a0 < 128) (h1 : a1 < 128) (h2 : a2 < 128) : zcall 128 [zA 3 0 0, zI (nI n), zI (nI a0), zI (nI a1), zI (nI a2)] σ = some (zI (zb (decide (t.2.2.1 - t.2.1 = n) && (decide (b t.2.1 = a0) && (decide (b (t.2.1 + 1) = a1) && decide (b (t.2.1 + 2) = a2))))), σ) := by
  have hT := h.2.1
  obtain ⟨w1, w2, w3, -⟩ := hw
  rw [E_M_is, ht.2.1, ht.2.2.2.1, pk_sub w2]
  by_cases c : t.2.2.1 - t.2.1 = n
  · have e2 : nI t.2.1 + 2 = nI (t.2.1 + 2) := nI_add t.2.1 2
    have b0 := (h.2.2 t.2.1 (by omega)).2
    have b1 := (h.2.2 (t.2.1 + 1) (by omega)).2
    have b2 := (h.2.2 (t.2.1 + 2) (by omega)).2
    rw [if_pos (by rw [c]), decide_eq_true c, Bool.true_and, L_byteAt h (by omega), zbI_some, if_pos (show t.2.1 < T by omega), ht.2.2.2.1, nI_1, L_byteAt h (by omega), zbI_some, if_pos (show t.2.1 + 1 < T by omega), ht.2.2.2.1, e2, L_byteAt h (by omega), zbI_some, if_pos (show t.2.1 + 2 < T by omega)]
    by_cases c0 : b t.2.1 = a0
    · rw [if_pos (by rw [c0]), decide_eq_true c0, Bool.true_and]
      by_cases c1 : b (t.2.1 + 1) = a1
      · rw [if_pos (by rw [c1]), decide_eq_true c1, Bool.true_and]
        by_cases c2 : b (t.2.1 + 2) = a2
        · rw [if_pos (by rw [c2]), decide_eq_true c2]; rfl
        · rw [if_neg (nI_ne c2 (by omega) (by omega)), decide_eq_false c2]; rfl
      · rw [if_neg (nI_ne c1 (by omega) (by omega)), decide_eq_false c1]; rfl
    · rw [if_neg (nI_ne c0 (by omega) (by omega)), decide_eq_false c0]; rfl
  · rw [if_neg (nI_ne c (by omega) (by omega)), decide_eq_false c]
    rfl
/-- the byte at a place, or none -/
def zby (b : Nat → Nat) (T i : Nat) : Int32 := if i < T then nI (b i) else -1
theorem L_ends1 {σ : ZS} {b : Nat → Nat} {T : Nat} {t : ZTok} (h : zTpM σ b T) (ht : zTm σ t) (hw : ztokW T t) (x : Int32) : zcall 129 [zA 3 0 0, zI x, zI 0] σ = some (zI (zb (decide (zby b T (t.2.1 + 3) = x))), σ) := by
  have hT := h.2.1
  obtain ⟨w1, w2, w3, -⟩ := hw
  rw [E_M_ends, ht.2.2.2.1, show nI t.2.1 + 3 = nI (t.2.1 + 3) from nI_add t.2.1 3, L_byteAt h (by omega), zbI_some, if_pos rfl]
  unfold zby
  by_cases c : (if t.2.1 + 3 < T then nI (b (t.2.1 + 3)) else -1) = x
  · rw [if_pos c, decide_eq_true c]; rfl
  · rw [if_neg c, decide_eq_false c]; rfl
theorem L_ends2 {σ : ZS} {b : Nat → Nat} {T : Nat} {t : ZTok} (h : zTpM σ b T) (ht : zTm σ t) (hw : ztokW T t) (x y : Int32) (hy : ¬ y = 0) : zcall 129 [zA 3 0 0, zI x, zI y] σ = some (zI (zb (decide (zby b T (t.2.1 + 3) = x) && decide (zby b T (t.2.1 + 4) = y))), σ) := by
  have hT := h.2.1
  obtain ⟨w1, w2, w3, -⟩ := hw
  rw [E_M_ends, ht.2.2.2.1, show nI t.2.1 + 3 = nI (t.2.1 + 3) from nI_add t.2.1 3, L_byteAt h (by omega), zbI_some, if_neg hy, ht.2.2.2.1, show nI t.2.1 + 4 = nI (t.2.1 + 4) from nI_add t.2.1 4, L_byteAt h (by omega), zbI_some]
  unfold zby
  by_cases c : (if t.2.1 + 3 < T then nI (b (t.2.1 + 3)) else -1) = x
  · rw [if_pos c, decide_eq_true c, Bool.true_and]
    by_cases c2 : (if t.2.1 + 4 < T then nI (b (t.2.1 + 4)) else -1) = y
    · rw [if_pos c2, decide_eq_true c2]; rfl
    · rw [if_neg c2, decide_eq_false c2]; rfl
  · rw [if_neg c, decide_eq_false c]; rfl
def zlk (b : Nat → Nat) (t : ZTok) : Int32 := if zis b t 0 = true then 0 else if zis b t 6 = true then 1 else if zis b t 1 = true then 2 else if zis b t 2 = true then 3 else if zis b t 3 = true then 4 else if zis b t 4 = true then 5 else if zis b t 5 = true then 6 else -4
theorem zis4 {b : Nat → Nat} {T : Nat} {t : ZTok} (hw : ztokW T t) (hb : ∀ i, i < T → b i < 128) (h1 : t.1 = 1) {g n a0 a1 a2 a3 : Nat} (hg : zwn g = n) (hn : n = 4) (c0 : zwc g 0 = a0) (c1 : zwc g 1 = a1) (c2 : zwc g 2 = a2) (c3 : zwc g 3 = a3) (h3 : a3 < 128) : zis b t g = ((decide (t.2.2.1 - t.2.1 = n) && (decide (b t.2.1 = a0) && (decide (b (t.2.1 + 1) = a1) && decide (b (t.2.1 + 2) = a2)))) && decide (zby b T (t.2.1 + 3) = nI a3)) := by
  obtain ⟨w1, w2, w3, -⟩ := hw
  unfold zis
  rw [decide_eq_true h1, Bool.true_and, hg]
  by_cases c : t.2.2.1 - t.2.1 = n
  · have e : decide (zby b T (t.2.1 + 3) = nI a3) = decide (b (t.2.1 + 3) = a3) := by
      unfold zby
      rw [if_pos (by omega)]
      exact decide_eq_decide.mpr (nI_eq (by have := hb (t.2.1 + 3) (by omega); omega) (by omega))
    rw [e, hn]
    show (_ && ((((true && decide (b (t.2.1 + 0) = zwc g 0)) && decide (b (t.2.1 + 1) = zwc g 1)) && decide (b (t.2.1 + 2) = zwc g 2)) && decide (b (t.2.1 + 3) = zwc g 3))) = _
    rw [c0, c1, c2, c3, Nat.add_zero, Bool.true_and]
    simp only [Bool.and_assoc]
  · rw [decide_eq_false c]; rfl
theorem zis5 {b : Nat → Nat} {T : Nat} {t : ZTok} (hw : ztokW T t) (hb : ∀ i, i < T → b i < 128) (h1 : t.1 = 1) {g a0 a1 a2 a3 a4 : Nat} (hg : zwn g = 5) (c0 : zwc g 0 = a0) (c1 : zwc g 1 = a1) (c2 : zwc g 2 = a2) (c3 : zwc g 3 = a3) (c4 : zwc g 4 = a4) (h3 : a3 < 128) (h4 : a4 < 128) : zis b t g = ((decide (t.2.2.1 - t.2.1 = 5) && (decide (b t.2.1 = a0) && (decide (b (t.2.1 + 1) = a1) && decide (b (t.2.1 + 2) = a2)))) && (decide (zby b T (t.2.1 + 3) = nI a3) && decide (zby b T (t.2.1 + 4) = nI a4))) := by
  obtain ⟨w1, w2, w3, -⟩ := hw
  unfold zis
  rw [decide_eq_true h1, Bool.true_and, hg]
  by_cases c : t.2.2.1 - t.2.1 = 5
  · have e : decide (zby b T (t.2.1 + 3) = nI a3) = decide (b (t.2.1 + 3) = a3) := by
      unfold zby
      rw [if_pos (by omega)]
      exact decide_eq_decide.mpr (nI_eq (by have := hb (t.2.1 + 3) (by omega); omega) (by omega))
    have e2 : decide (zby b T (t.2.1 + 4) = nI a4) = decide (b (t.2.1 + 4) = a4) := by
      unfold zby
      rw [if_pos (by omega)]
      exact decide_eq_decide.mpr (nI_eq (by have := hb (t.2.1 + 4) (by omega); omega) (by omega))
    rw [e, e2]
    show (_ && (((((true && decide (b (t.2.1 + 0) = zwc g 0)) && decide (b (t.2.1 + 1) = zwc g 1)) && decide (b (t.2.1 + 2) = zwc g 2)) && decide (b (t.2.1 + 3) = zwc g 3)) && decide (b (t.2.1 + 4) = zwc g 4))) = _
    rw [c0, c1, c2, c3, c4, Nat.add_zero, Bool.true_and]
    simp only [Bool.and_assoc]
  · rw [decide_eq_false c]; rfl
theorem zis3 {b : Nat → Nat} {t : ZTok} (h1 : t.1 = 1) : zis b t 2 = (decide (t.2.2.1 - t.2.1 = 3) && (decide (b t.2.1 = 111) && (decide (b (t.2.1 + 1) = 110) && decide (b (t.2.1 + 2) = 101)))) := by
  unfold zis
  rw [decide_eq_true h1, Bool.true_and, show zwn 2 = 3 from rfl]
  show (_ && (((true && decide (b (t.2.1 + 0) = 111)) && decide (b (t.2.1 + 1) = 110)) && decide (b (t.2.1 + 2) = 101))) = _
  rw [Nat.add_zero, Bool.true_and]
  simp only [Bool.and_assoc]
theorem L_lineNow {σ : ZS} {b : Nat → Nat} {T : Nat} {t : ZTok} (h : zTpM σ b T) (ht : zTm σ t) (hw : ztokW T t) (h1 : t.1 = 1) : zcall 127 [zA 3 0 0] σ = some (zI (zlk b t), σ) := by
  have hb := fun j hj => (h.2.2 j hj).2
  have i0 := L_is3 h ht hw (n := 5) (a0 := 104) (a1 := 111) (a2 := 117) (by decide) (by decide) (by decide) (by decide) (by decide)
  have i6 := L_is3 h ht hw (n := 4) (a0 := 115) (a1 := 111) (a2 := 102) (by decide) (by decide) (by decide) (by decide) (by decide)
  have i1 := L_is3 h ht hw (n := 4) (a0 := 112) (a1 := 97) (a2 := 114) (by decide) (by decide) (by decide) (by decide) (by decide)
  have i2 := L_is3 h ht hw (n := 3) (a0 := 111) (a1 := 110) (a2 := 101) (by decide) (by decide) (by decide) (by decide) (by decide)
  have i3 := L_is3 h ht hw (n := 4) (a0 := 97) (a1 := 119) (a2 := 97) (by decide) (by decide) (by decide) (by decide) (by decide)
  have i4 := L_is3 h ht hw (n := 4) (a0 := 108) (a1 := 105) (a2 := 110) (by decide) (by decide) (by decide) (by decide) (by decide)
  have i5 := L_is3 h ht hw (n := 5) (a0 := 115) (a1 := 99) (a2 := 101) (by decide) (by decide) (by decide) (by decide) (by decide)
  have e0 := L_ends2 h ht hw 115 101 (by decide)
  have e6 := L_ends1 h ht hw 116
  have e3 := L_ends1 h ht hw 121
  have e4 := L_ends1 h ht hw 101
  have e5 := L_ends2 h ht hw 110 101 (by decide)
  have z0 := zis5 hw hb h1 (g := 0) (a0 := 104) (a1 := 111) (a2 := 117) (a3 := 115) (a4 := 101) rfl rfl rfl rfl rfl rfl (by decide) (by decide)
  have z6 := zis4 hw hb h1 (g := 6) (n := 4) (a0 := 115) (a1 := 111) (a2 := 102) (a3 := 116) rfl rfl rfl rfl rfl rfl (by decide)
  have z1 := zis4 hw hb h1 (g := 1) (n := 4) (a0 := 112) (a1 := 97) (a2 := 114) (a3 := 116) rfl rfl rfl rfl rfl rfl (by decide)
  have z2 := zis3 (b := b) h1
  have z3 := zis4 hw hb h1 (g := 3) (n := 4) (a0 := 97) (a1 := 119) (a2 := 97) (a3 := 121) rfl rfl rfl rfl rfl rfl (by decide)
  have z4 := zis4 hw hb h1 (g := 4) (n := 4) (a0 := 108) (a1 := 105) (a2 := 110) (a3 := 101) rfl rfl rfl rfl rfl rfl (by decide)
  have z5 := zis5 hw hb h1 (g := 5) (a0 := 115) (a1 := 99) (a2 := 101) (a3 := 110) (a4 := 101) rfl rfl rfl rfl rfl rfl (by decide) (by decide)
  rw [show nI 115 = (115 : Int32) from rfl, show nI 101 = (101 : Int32) from rfl] at z0
  rw [show nI 116 = (116 : Int32) from rfl] at z6 z1
  rw [show nI 121 = (121 : Int32) from rfl] at z3
  rw [show nI 101 = (101 : Int32) from rfl] at z4
  rw [show nI 110 = (110 : Int32) from rfl, show nI 101 = (101 : Int32) from rfl] at z5
  generalize (decide (t.2.2.1 - t.2.1 = 5) && (decide (b t.2.1 = 104) && (decide (b (t.2.1 + 1) = 111) && decide (b (t.2.1 + 2) = 117)))) = A0 at *
  generalize (decide (t.2.2.1 - t.2.1 = 4) && (decide (b t.2.1 = 115) && (decide (b (t.2.1 + 1) = 111) && decide (b (t.2.1 + 2) = 102)))) = A6 at *
  generalize (decide (t.2.2.1 - t.2.1 = 4) && (decide (b t.2.1 = 112) && (decide (b (t.2.1 + 1) = 97) && decide (b (t.2.1 + 2) = 114)))) = A1 at *
  generalize (decide (t.2.2.1 - t.2.1 = 3) && (decide (b t.2.1 = 111) && (decide (b (t.2.1 + 1) = 110) && decide (b (t.2.1 + 2) = 101)))) = A2 at *
  generalize (decide (t.2.2.1 - t.2.1 = 4) && (decide (b t.2.1 = 97) && (decide (b (t.2.1 + 1) = 119) && decide (b (t.2.1 + 2) = 97)))) = A3 at *
  generalize (decide (t.2.2.1 - t.2.1 = 4) && (decide (b t.2.1 = 108) && (decide (b (t.2.1 + 1) = 105) && decide (b (t.2.1 + 2) = 110)))) = A4 at *
  generalize (decide (t.2.2.1 - t.2.1 = 5) && (decide (b t.2.1 = 115) && (decide (b (t.2.1 + 1) = 99) && decide (b (t.2.1 + 2) = 101)))) = A5 at *
  generalize (decide (zby b T (t.2.1 + 3) = 115) && decide (zby b T (t.2.1 + 4) = 101)) = B0 at *
  generalize (decide (zby b T (t.2.1 + 3) = 110) && decide (zby b T (t.2.1 + 4) = 101)) = B5 at *
  generalize decide (zby b T (t.2.1 + 3) = 116) = B6 at *
  generalize decide (zby b T (t.2.1 + 3) = 121) = B3 at *
  generalize decide (zby b T (t.2.1 + 3) = 101) = B4 at *
  have n149 : zev 127 149 [(0, zA 3 0 0)] [] σ = some (zI (if zis b t 5 = true then 6 else -4), σ) := by
    rw [E_M_lineNow_149]
    rw [show zcall 128 [zA 3 0 0, zI 5, zI 115, zI 99, zI 101] σ = _ from i5, zbI_some, e5, zbI_some, z5]
    cases A5 <;> cases B5 <;> rfl
  have n79 : zev 127 79 [(0, zA 3 0 0)] [] σ = some (zI (if zis b t 2 = true then 3 else if zis b t 3 = true then 4 else if zis b t 4 = true then 5 else if zis b t 5 = true then 6 else -4), σ) := by
    have j2 : zcall 128 [zA 3 0 0, zI 3, zI 111, zI 110, zI 101] σ = _ := i2
    have j3 : zcall 128 [zA 3 0 0, zI 4, zI 97, zI 119, zI 97] σ = _ := i3
    have j4 : zcall 128 [zA 3 0 0, zI 4, zI 108, zI 105, zI 110] σ = _ := i4
    rw [E_M_lineNow_79]
    simp only [j2, j3, j4, e3, e4, n149, zbI_some]
    rw [z2, z3, z4]
    cases A2 <;> cases A3 <;> cases B3 <;> cases A4 <;> cases B4 <;> rfl
  have j0 : zcall 128 [zA 3 0 0, zI 5, zI 104, zI 111, zI 117] σ = _ := i0
  have j6 : zcall 128 [zA 3 0 0, zI 4, zI 115, zI 111, zI 102] σ = _ := i6
  have j1 : zcall 128 [zA 3 0 0, zI 4, zI 112, zI 97, zI 114] σ = _ := i1
  rw [E_M_lineNow]
  simp only [j0, j6, j1, e0, e6, n79, zbI_some]
  unfold zlk
  rw [z0, z6, z1]
  cases A0 <;> cases B0 <;> cases A6 <;> cases B6 <;> cases A1 <;> rfl
