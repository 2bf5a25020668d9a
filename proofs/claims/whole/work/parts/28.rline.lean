/-! text: the reference reads a line -/
theorem zis_f {b : Nat → Nat} {t : ZTok} {g : Nat} (hg : g < 7) (h : zis b t g = true) : t.1 = 1 ∧ t.2.2.1 - t.2.1 = zwn g ∧ b t.2.1 = zwc g 0 := by
  unfold zis at h
  rw [Bool.and_eq_true, Bool.and_eq_true, decide_eq_true_iff, decide_eq_true_iff] at h
  refine ⟨h.1, h.2.1, ?_⟩
  have hn := (zwn_lt g hg).1
  have hw : ∀ n, 0 < n → zwm b t.2.1 g n = true → b t.2.1 = zwc g 0 := by
    intro n
    induction n with
    | zero => intro h0; exact absurd h0 (by omega)
    | succ n ih =>
      intro _ hh
      have hh : (zwm b t.2.1 g n && decide (b (t.2.1 + n) = zwc g n)) = true := hh
      rw [Bool.and_eq_true, decide_eq_true_iff] at hh
      by_cases c : n = 0
      · subst c
        exact hh.2
      · exact ih (by omega) hh.1
  exact hw _ (by omega) h.2.2
theorem zis_x {b : Nat → Nat} {t : ZTok} {g g2 : Nat} (hg : g < 7) (hg2 : g2 < 7) (hx : zwn g ≠ zwn g2 ∨ zwc g 0 ≠ zwc g2 0) (h : zis b t g = true) : ¬ zis b t g2 = true := fun h2 => by
  obtain ⟨-, a1, a2⟩ := zis_f hg h
  obtain ⟨-, b1, b2⟩ := zis_f hg2 h2
  rcases hx with e | e
  · exact e (a1.symm.trans b1)
  · exact e (a2.symm.trans b2)
/-- up to the check of its name -/
theorem L_126 {σ : ZS} {b : Nat → Nat} {T : Nat} {t : ZTok} {S : ZDr} (h : zTpM σ b T) (ht : zTm σ t) (hw : ztokW T t) (hS : zRd σ S) (hB : zBd S) :
    ((zlk b t = 0 ∨ zlk b t = 1 ∨ zlk b t = 2) → t.1 = 1 → zcall 126 [zA 3 0 0] σ = zev 126 74 [(0, zA 3 0 0), (1, zI (zlk b t)), (2, zI 0)] [zI 1, zA 3 0 0] σ) ∧
    ((zlk b t = 3 ∨ zlk b t = 4) → t.1 = 1 → zcall 126 [zA 3 0 0] σ = zev 126 74 [(0, zA 3 0 0), (1, zI (zlk b t)), (2, zI (if 4 ≤ dN S then 1 else 0))] [zI 1, zA 3 0 0] σ) ∧
    ((zlk b t = 5 ∨ zlk b t = 6) → t.1 = 1 → zcall 126 [zA 3 0 0] σ = zev 126 74 [(0, zA 3 0 0), (1, zI (zlk b t)), (2, zI (if 8 ≤ dL S then 1 else 0))] [zI 1, zA 3 0 0] σ) ∧
    ((t.1 = 1 → zlk b t = -4) → zcall 126 [zA 3 0 0] σ = zev 126 74 [(0, zA 3 0 0), (1, zI (-4)), (2, zI 0)] [zI 0, zA 3 0 0] σ) := by
  have e11 := hS.1.2.2.1
  have e12 := hS.1.2.2.2
  have hN := hB.1
  have hL := hB.2.1
  have s1 : t.1 = 1 → σ 3 0 0 22 = 1 := fun z => by rw [ht.2.2.1, z]; rfl
  refine ⟨fun hk h1 => ?_, fun hk h1 => ?_, fun hk h1 => ?_, fun hk => ?_⟩
  · rw [E_M_readLine, if_pos (s1 h1), L_lineNow h ht hw h1, zbI_some]
    rcases hk with e | e | e <;> rw [e, if_neg (by decide), if_neg (by decide), E_M_readLine_36, if_neg (by decide), if_neg (by decide), if_neg (by decide)]
  · rw [E_M_readLine, if_pos (s1 h1), L_lineNow h ht hw h1, zbI_some, e11]
    by_cases c : 4 ≤ dN S
    · have c4 : nI (dN S) = 4 := by rw [show dN S = 4 by omega]; rfl
      rw [if_pos c]
      rcases hk with e | e
      · rw [e, if_pos rfl, if_pos c4, if_neg (by decide)]
      · rw [e, if_neg (by decide), if_pos rfl, if_pos c4, if_neg (by decide)]
    · have c4 : ¬ nI (dN S) = 4 := nI_ne (b := 4) (by omega) (by omega) (by decide)
      rw [if_neg c]
      rcases hk with e | e
      · rw [e, if_pos rfl, if_neg c4, E_M_readLine_36, if_neg (by decide), if_neg (by decide), if_neg (by decide)]
      · rw [e, if_neg (by decide), if_pos rfl, if_neg c4, E_M_readLine_36, if_neg (by decide), if_neg (by decide), if_neg (by decide)]
  · rw [E_M_readLine, if_pos (s1 h1), L_lineNow h ht hw h1, zbI_some]
    by_cases c : 8 ≤ dL S
    · have c8 : nI (dL S) = 8 := by rw [show dL S = 8 by omega]; rfl
      rw [if_pos c]
      rcases hk with e | e
      · rw [e, if_neg (by decide), if_neg (by decide), E_M_readLine_36, if_pos rfl, e12, if_pos c8, if_neg (by decide)]
      · rw [e, if_neg (by decide), if_neg (by decide), E_M_readLine_36, if_neg (by decide), if_pos rfl, e12, if_pos c8, if_neg (by decide)]
    · have c8 : ¬ nI (dL S) = 8 := nI_ne (b := 8) (by omega) (by omega) (by decide)
      rw [if_neg c]
      rcases hk with e | e
      · rw [e, if_neg (by decide), if_neg (by decide), E_M_readLine_36, if_pos rfl, e12, if_neg c8, if_neg (by decide)]
      · rw [e, if_neg (by decide), if_neg (by decide), E_M_readLine_36, if_neg (by decide), if_pos rfl, e12, if_neg c8, if_neg (by decide)]
  · by_cases h1 : t.1 = 1
    · rw [E_M_readLine, if_pos (s1 h1), L_lineNow h ht hw h1, zbI_some, hk h1, if_neg (by decide), if_neg (by decide), E_M_readLine_36, if_neg (by decide), if_neg (by decide), if_pos rfl]
    · rw [E_M_readLine, if_neg (show ¬ σ 3 0 0 22 = 1 by rw [ht.2.2.1]; exact nI_ne (b := 1) h1 (by have := hw.1; omega) (by decide)), E_M_readLine_36, if_neg (by decide), if_neg (by decide), if_pos rfl]
theorem zRd_14 {σ : ZS} {S : ZDr} {v : Int32} (h : zRd σ S) : zRd (zup σ 3 0 0 14 v) S := by
  obtain ⟨⟨r1, r2, r3, r4⟩, ⟨r5, r6, r7⟩, r8, r9⟩ := h
  refine ⟨⟨?_, ?_, ?_, ?_⟩, ⟨?_, ?_, ?_⟩, ?_, fun i hi => ?_⟩
  · rw [zup_m, zru_o (by decide)]; exact r1
  · rw [zup_m, zru_o (by decide)]; exact r2
  · rw [zup_m, zru_o (by decide)]; exact r3
  · rw [zup_m, zru_o (by decide)]; exact r4
  · rw [zup_m, zru_o (by decide)]; exact r5
  · rw [zup_m, zru_o (by decide)]; exact r6
  · rw [zup_m, zru_o (by decide)]; exact r7
  · rw [zup_o (by decide)]; exact r8
  · rw [zup_o (by decide)]; exact r9 i hi
theorem zse_14 {r : ZP (ZDr × ZTok)} {p : ZDr × ZTok} (h : zbn r zse = .inr p) : r = .inr p := by
  obtain ⟨a, a1, a2⟩ := zbn_i h
  unfold zse at a2
  by_cases c : a.2.1 = 3
  · rw [if_pos c] at a2; cases a2; exact a1
  · rw [if_neg c] at a2; cases a2
theorem L_readLineM {b : Nat → Nat} {T : Nat} {t : ZTok} {S : ZDr} {σ : ZS} (h : zTpM σ b T) (ht : zTm σ t) (hw : ztokW T t) (hS : zRd σ S) (hD : zDI S) (e14 : σ 3 0 0 14 = nI (z14 (dh S) (ds S))) :
    ∃ τ, zcall 126 [zA 3 0 0] σ = some (zI 0, τ) ∧ zKx σ τ ∧ zLRm b T τ (zline b T t S) ∧ ∀ p, zline b T t S = .inr p → τ 3 0 0 14 = nI (z14 (dh p.1) (ds p.1)) := by
  have hb : ∀ j, j < T → b j < 128 := fun j hj => (h.2.2 j hj).2
  have hB := zDI_B hD
  obtain ⟨o, o1, o2, -⟩ := hD.2.2.2.1
  have hO : ∃ o, o < 2 ^ dL S ∧ dH S 0 5 = nI o := ⟨o, o1, o2⟩
  obtain ⟨l1, l2, l3, l4⟩ := L_126 h ht hw hS hB
  have bad : ∀ {q : Nat × Nat} {P : ZDr × ZTok → Prop}, ∀ p, (.inl q : ZP (ZDr × ZTok)) = .inr p → P p := fun p hp => nomatch hp
  -- behind the name
  have go : ∀ (σ' : ZS) (k : Int32) (r : ZTok → ZP (ZDr × ZTok)), zTm σ' t → zTpM σ' b T → zKx σ σ' → (∀ t1 p, ztokW T t1 → r t1 = .inr p → ztokW T p.2) → (∀ t1 τ1, zKm σ' τ1 → zTm τ1 t1 → ztokW T t1 → ∃ τ, zcall 130 [zA 3 0 0, zI k] τ1 = some (zI 0, τ) ∧ zKy τ1 τ ∧ zRR τ (r t1)) → zcall 126 [zA 3 0 0] σ = zev 126 137 [(0, zA 3 0 0), (1, zI k)] [] σ' → zline b T t S = (zbn (ztok b T t.2.2.1) fun t1 => zbn (r t1) zse) → (∀ t1 p, r t1 = .inr p → σ' 3 0 0 14 = nI (z14 (dh p.1) (ds p.1))) →
      ∃ τ, zcall 126 [zA 3 0 0] σ = some (zI 0, τ) ∧ zKx σ τ ∧ zLRm b T τ (zline b T t S) ∧ ∀ p, zline b T t S = .inr p → τ 3 0 0 14 = nI (z14 (dh p.1) (ds p.1)) := by
    intro σ' k r ht' h' kx hr R e1 e2 e3
    obtain ⟨τ, a1, a2, a3⟩ := L_137 h' ht' hw (fun t1 τ p hp hw1 _ => hr t1 p hw1 hp) R
    refine ⟨τ, e1.trans a1, zKx_t kx (zKx_y a2), by rw [e2]; exact a3, fun p hp => ?_⟩
    rw [e2] at hp
    obtain ⟨t1, b1, b2⟩ := zbn_i hp
    rw [a2.2 14 (by omega)]
    exact e3 t1 p (zse_14 b2)
  have fin : ∀ {τ : ZS} {q : Nat × Nat}, zcall 126 [zA 3 0 0] σ = some (zI 0, τ) → zKx σ τ → zFm τ q → zline b T t S = .inl q → ∃ τ, zcall 126 [zA 3 0 0] σ = some (zI 0, τ) ∧ zKx σ τ ∧ zLRm b T τ (zline b T t S) ∧ ∀ p, zline b T t S = .inr p → τ 3 0 0 14 = nI (z14 (dh p.1) (ds p.1)) := by
    intro τ q a1 a2 a3 a4
    refine ⟨τ, a1, a2, ?_, fun p hp => ?_⟩
    · rw [a4]; exact a3
    · rw [a4] at hp; cases hp
  have x0 : zKx σ σ := ⟨zfrm_r, fun _ _ => rfl⟩
  have hz14 := z14_b (dh S) (ds S)
  by_cases c0 : zis b t 0 = true
  · have t1 := (zis_f (by decide) c0).1
    have ek : zlk b t = 0 := if_pos c0
    have ez : zline b T t S = zlHouse b T t S := if_pos c0
    have e1 := l1 (Or.inl ek) t1
    rw [ek] at e1
    rw [zeHouse] at ez
    rcases L_74k (k := 0) (told := dh S) ht (by decide) (by rw [e14]; exact hz14.1) with ⟨d, τ, a1, a2, a3⟩ | ⟨d, a1⟩
    · exact fin (e1.trans a1) a2 a3 (by rw [ez, if_pos d])
    · rw [if_neg (by rw [d]; decide)] at ez
      refine go (zup σ 3 0 0 14 (σ 3 0 0 14 ||| ((1 : Int32) <<< ((0 : Int32) &&& 31)))) 0 (fun t1 => rHouse b T t1 S) (zTm_u (by decide) ht) (zTpM_x zKx_14 h) zKx_14 (fun t1 p hw1 hp => (rAll_g hb hw1).1 hp) (fun t1 τ1 k1 k2 k3 => L_rHouse (zTpM_k k1 (zTpM_x zKx_14 h)) k2 k3 (zRd_m k1 (zRd_14 hS))) (e1.trans a1) ez (fun t1 p hp => ?_)
      obtain ⟨p1, q1, hp⟩ := zbn_i hp
      obtain ⟨p2, q2, hp⟩ := zbn_i hp
      cases hp
      rw [zup_same, e14]
      exact hz14.2.2.1
  · by_cases c1 : zis b t 1 = true
    · have t1 := (zis_f (by decide) c1).1
      have ek : zlk b t = 2 := by unfold zlk; rw [if_neg c0, if_neg (zis_x (by decide) (by decide) (by decide) c1), if_pos c1]
      have ez : zline b T t S = zlPart b T t S := by unfold zline; rw [if_neg c0, if_pos c1]
      have e1 := l1 (Or.inr (Or.inr ek)) t1
      rw [ek, L_74g ht (by decide)] at e1
      rw [zePart] at ez
      refine go σ 2 (fun t1 => rPart b T t1 S) ht h x0 (fun t1 p hw1 hp => (rAll_g hb hw1).2.1 hp) (fun t1 τ1 k1 k2 k3 => L_rPart (zTpM_k k1 h) k2 k3 (zRd_m k1 hS) hB) e1 ez (fun t1 p hp => ?_)
      obtain ⟨s, q1, hp⟩ := zbn_i hp
      by_cases c : (dp S).testBit s = true
      · rw [if_pos c] at hp; cases hp
      · rw [if_neg c] at hp
        obtain ⟨t2, q2, hp⟩ := zbn_i hp
        obtain ⟨p2, q3, hp⟩ := zbn_i hp
        cases hp
        exact e14
    · have one : ∀ here (k : Int32), ((k = 3 ∧ here = true) ∨ (k = 4 ∧ here = false)) → zlk b t = k → t.1 = 1 → zline b T t S = zlOne b T t S here → ∃ τ, zcall 126 [zA 3 0 0] σ = some (zI 0, τ) ∧ zKx σ τ ∧ zLRm b T τ (zline b T t S) ∧ ∀ p, zline b T t S = .inr p → τ 3 0 0 14 = nI (z14 (dh p.1) (ds p.1)) := by
        intro here k hk ek t1 ez
        have e1 := l2 (hk.elim (fun z => Or.inl (ek.trans z.1)) (fun z => Or.inr (ek.trans z.1))) t1
        rw [ek] at e1
        rw [zeOne] at ez
        by_cases c : 4 ≤ dN S
        · rw [if_pos c] at e1 ez
          obtain ⟨τ, a1, a2, a3⟩ := L_74f ht k
          exact fin (e1.trans a1) (zKx_m a2) a3 ez
        · rw [if_neg c] at e1 ez
          rw [L_74g ht (by rcases hk with z | z <;> rw [z.1] <;> decide)] at e1
          refine go σ k (fun t1 => rOne b T t1 S here) ht h x0 (fun t1 p hw1 hp => (rAll_g hb hw1).2.2.1 here hp) (fun t1 τ1 k1 k2 k3 => L_rOne (zTpM_k k1 h) k2 k3 (zRd_m k1 hS) hB (by omega) hk) e1 ez (fun t1 p hp => ?_)
          have hr2 : ∀ t2 s z, rOne2 b T t2 S s z = .inr p → σ 3 0 0 14 = nI (z14 (dh p.1) (ds p.1)) := fun t2 s z hp => by
            obtain ⟨p1, q1, hp⟩ := zbn_i hp
            obtain ⟨p2, q2, hp⟩ := zbn_i hp
            obtain ⟨f, q3, hp⟩ := zbn_i hp
            cases hp
            exact e14
          cases here with
          | false => exact hr2 _ _ _ hp
          | true =>
            have hp : (zbn (zchk t1 0 11) fun s => if zoc (dH S) s (dN S) = true then (.inl (4, t1.2.1) : ZP (ZDr × ZTok)) else zbn (ztok b T t1.2.2.1) fun t2 => rOne2 b T t2 S (nI s) (zmx (dz S) (s + 1))) = .inr p := hp
            obtain ⟨s, q1, hp⟩ := zbn_i hp
            by_cases c : zoc (dH S) s (dN S) = true
            · rw [if_pos c] at hp; cases hp
            · rw [if_neg c] at hp
              obtain ⟨t2, q2, hp⟩ := zbn_i hp
              exact hr2 _ _ _ hp
      have line : ∀ op (k : Int32), ((k = 6 ∧ op = true) ∨ (k = 5 ∧ op = false)) → zlk b t = k → t.1 = 1 → zline b T t S = zlLine b T t S op → ∃ τ, zcall 126 [zA 3 0 0] σ = some (zI 0, τ) ∧ zKx σ τ ∧ zLRm b T τ (zline b T t S) ∧ ∀ p, zline b T t S = .inr p → τ 3 0 0 14 = nI (z14 (dh p.1) (ds p.1)) := by
        intro op k hk ek t1 ez
        have e1 := l3 (hk.elim (fun z => Or.inr (ek.trans z.1)) (fun z => Or.inl (ek.trans z.1))) t1
        rw [ek] at e1
        rw [zeLine] at ez
        by_cases c : 8 ≤ dL S
        · rw [if_pos c] at e1 ez
          obtain ⟨τ, a1, a2, a3⟩ := L_74f ht k
          exact fin (e1.trans a1) (zKx_m a2) a3 ez
        · rw [if_neg c] at e1 ez
          rw [L_74g ht (by rcases hk with z | z <;> rw [z.1] <;> decide)] at e1
          refine go σ k (fun t1 => rLine b T t1 S op) ht h x0 (fun t1 p hw1 hp => (rAll_g hb hw1).2.2.2.1 op hp) (fun t1 τ1 k1 k2 k3 => L_rLine (zTpM_k k1 h) k2 k3 (zRd_m k1 hS) hB (by omega) hO hk) e1 ez (fun t1 p hp => ?_)
          obtain ⟨p1, q1, hp⟩ := zbn_i hp
          cases hp
          exact e14
      by_cases c2 : zis b t 2 = true
      · exact one true 3 (Or.inl ⟨rfl, rfl⟩) (by unfold zlk; rw [if_neg c0, if_neg (zis_x (by decide) (by decide) (by decide) c2), if_neg c1, if_pos c2]) (zis_f (by decide) c2).1 (by unfold zline; rw [if_neg c0, if_neg c1, if_pos c2])
      · by_cases c3 : zis b t 3 = true
        · exact one false 4 (Or.inr ⟨rfl, rfl⟩) (by unfold zlk; rw [if_neg c0, if_neg (zis_x (by decide) (by decide) (by decide) c3), if_neg c1, if_neg c2, if_pos c3]) (zis_f (by decide) c3).1 (by unfold zline; rw [if_neg c0, if_neg c1, if_neg c2, if_pos c3])
        · by_cases c4 : zis b t 4 = true
          · exact line false 5 (Or.inr ⟨rfl, rfl⟩) (by unfold zlk; rw [if_neg c0, if_neg (zis_x (by decide) (by decide) (by decide) c4), if_neg c1, if_neg c2, if_neg c3, if_pos c4]) (zis_f (by decide) c4).1 (by unfold zline; rw [if_neg c0, if_neg c1, if_neg c2, if_neg c3, if_pos c4])
          · by_cases c5 : zis b t 5 = true
            · exact line true 6 (Or.inl ⟨rfl, rfl⟩) (by unfold zlk; rw [if_neg c0, if_neg (zis_x (by decide) (by decide) (by decide) c5), if_neg c1, if_neg c2, if_neg c3, if_neg c4, if_pos c5]) (zis_f (by decide) c5).1 (by unfold zline; rw [if_neg c0, if_neg c1, if_neg c2, if_neg c3, if_neg c4, if_pos c5])
            · by_cases c6 : zis b t 6 = true
              · have t1 := (zis_f (by decide) c6).1
                have ek : zlk b t = 1 := by unfold zlk; rw [if_neg c0, if_pos c6]
                have ez : zline b T t S = zlSoft b T t S := by unfold zline; rw [if_neg c0, if_neg c1, if_neg c2, if_neg c3, if_neg c4, if_neg c5, if_pos c6]
                have e1 := l1 (Or.inr (Or.inl ek)) t1
                rw [ek] at e1
                rw [zeSoft] at ez
                rcases L_74k (k := 1) (told := ds S) ht (by decide) (by rw [e14]; exact hz14.2.1) with ⟨d, τ, a1, a2, a3⟩ | ⟨d, a1⟩
                · exact fin (e1.trans a1) a2 a3 (by rw [ez, if_pos d])
                · rw [if_neg (by rw [d]; decide)] at ez
                  refine go (zup σ 3 0 0 14 (σ 3 0 0 14 ||| ((1 : Int32) <<< ((1 : Int32) &&& 31)))) 1 (fun t1 => rSoft t1 S) (zTm_u (by decide) ht) (zTpM_x zKx_14 h) zKx_14 (fun t1 p hw1 hp => (rAll_g (b := b) hb hw1).2.2.2.2 hp) (fun t1 τ1 k1 k2 k3 => L_rSoft k2 (zRd_m k1 (zRd_14 hS)) hB) (e1.trans a1) ez (fun t1 p hp => ?_)
                  cases hp
                  rw [zup_same, e14]
                  exact hz14.2.2.2
              · have ez : zline b T t S = .inl (2, t.2.1) := by unfold zline; rw [if_neg c0, if_neg c1, if_neg c2, if_neg c3, if_neg c4, if_neg c5, if_neg c6]
                have ek : zlk b t = -4 := by unfold zlk; rw [if_neg c0, if_neg c6, if_neg c1, if_neg c2, if_neg c3, if_neg c4, if_neg c5]
                obtain ⟨τ, a1, a2, a3⟩ := L_74n ht (-4)
                exact fin ((l4 (fun _ => ek)).trans a1) (zKx_m a2) a3 ez
