/-! best -/
theorem zsx_nil {I : Nat → Bool} {M : Nat} {x : List Nat} (g : zgd M x = true) (hx : x.length ≤ M) (h : zsx I M 0 x = none) : zrs I M 0 x = [] := by
  have := zwk1 (I := I) x 0 g (by omega)
  rw [h] at this
  exact this
theorem zsx_con {I : Nat → Bool} {M : Nat} {x y : List Nat} (g : zgd M x = true) (hx : x.length ≤ M) (h : zsx I M 0 x = some y) : zrs I M 0 x = y :: zrs I M 0 y := by
  have := zwk1 (I := I) x 0 g (by omega)
  rw [h] at this
  exact this
theorem zTr_e {σ τ : ZS} {h : Nat → Nat → Int32} {mv : Nat → Nat} {k M : Nat} {l : List Nat} (e : τ 1 1 = σ 1 1) (t : zTr σ h mv k M l) : zTr τ h mv k M l := by
  unfold zTr
  rw [e]
  exact t
/-- how many LINES are spoken by a SEATING -/
def zvn1 (h : Nat → Nat → Int32) (N L : Nat) (x : List Nat) : Nat := zspn (zhl h (zmvr (zhr h) N) x) zno N zno L
theorem zvn1_le (h : Nat → Nat → Int32) (N L : Nat) (x : List Nat) : zvn1 h N L x ≤ L := zct_le _ _
/-- what the class has found: nothing, or how many and by whom -/
def zbR (σ : ZS) (h : Nat → Nat → Int32) (N L : Nat) (x2 : Int32) (a : Option (Nat × List Nat)) : Prop :=
  (a = none ∧ x2 = -4) ∨ ∃ m y, a = some (m, y) ∧ x2 = nI m ∧ m ≤ L ∧ ∀ p, p < 4 → σ 0 0 11 p = zhl h (zmvr (zhr h) N) y 4 p
def zBX (c g j : Nat) : Prop := (c = 0 ∧ g = 0 ∧ (j = 7 ∨ j = 8 ∨ j = 11)) ∨ (c = 1 ∧ g = 1 ∧ j = 4)
theorem zBX_s (c g j : Nat) (h : zBX c g j) : zScr c g j := by
  rcases h with ⟨rfl, rfl, h⟩ | ⟨rfl, rfl, rfl⟩
  · exact Or.inl ⟨rfl, Or.inr (by omega)⟩
  · exact Or.inr (Or.inl ⟨rfl, Or.inl rfl⟩)
def zbF (τ : ZS) (x1 : Int32) (m : Nat) : ZR := if x1 = 0 then some (zI (nI m), τ) else zck (x1 - 10) 4 (some (zI (τ 0 0 11 (x1 - 10).toNatClampNeg), τ))
theorem L_bestEnd (σ : ZS) (x1 : Int32) (m i : Nat) : zev 84 50 [(0, zA 0 0 0), (1, zI x1), (2, zI (nI m)), (3, zI 0), (4, zI (nI i))] [] σ = zbF σ x1 m := by
  rw [E_S_best_50, if_pos rfl]
  unfold zbF
  split <;> rfl
theorem L_bestC {h : Nat → Nat → Int32} {R P N L S : Nat} (w : zWF h R P N L S) (x1 : Int32) : ∀ (n : Nat) (x : List Nat) (i : Nat) (x2 : Int32) (a : Option (Nat × List Nat)) (σ : ZS), (zrs (zid h L) (R * P) 0 x).length = n → i + n + 1 ≤ 11880 → zgd (R * P) x = true → x.length = zct (zhr h) N → zSC σ (zmvr (zhr h) N) (zct (zhr h) N) (R * P) (zid h L) → zTr σ h (zmvr (zhr h) N) (zct (zhr h) N) (R * P) x → zbR σ h N L x2 a →
    ∃ τ m y, (x :: zrs (zid h L) (R * P) 0 x).foldl (zub (zvn1 h N L)) a = some (m, y) ∧ zev 84 50 [(0, zA 0 0 0), (1, zI x1), (2, zI x2), (3, zI 1), (4, zI (nI i))] [] σ = zbF τ x1 m ∧ zfrm zScr σ τ ∧ ∀ p, p < 4 → τ 0 0 11 p = zhl h (zmvr (zhr h) N) y 4 p := by
  intro n
  induction n using Nat.strongRecOn with
  | ind n ih =>
    intro x i x2 a σ hn hi g hx c t r
    have hL := w.2.1.2.2.2.2.2.1
    have hN := w.2.1.2.2.2.2.1
    have hkM := c.2.2.2.1
    have hV := zvn1_le h N L x
    obtain ⟨τ1, p1, p2, -⟩ := L_playT (zTr_IR c t hx) (zNW_l (mv := zmvr (zhr h) N) (zWF_NW w) (zgd_lo g))
    have p1 : zcall 24 [zA 0 0 7, zA 1 1 0, zI 0, zI 0] σ = some (zI (nI (zvn1 h N L x)), τ1) := p1
    have q11 : τ1 1 1 = σ 1 1 := funext fun j => p2 1 1 j (by simp [zPX])
    have c1 : zSC τ1 _ _ _ _ := zSC_f (zfrm_m zPX_n p2) c
    have t1 : zTr τ1 h (zmvr (zhr h) N) (zct (zhr h) N) (R * P) x := zTr_e q11 t
    have tail : ∀ (σ' : ZS) (m : Nat) (y : List Nat), zSC σ' (zmvr (zhr h) N) (zct (zhr h) N) (R * P) (zid h L) → zTr σ' h (zmvr (zhr h) N) (zct (zhr h) N) (R * P) x → m ≤ L → (∀ p, p < 4 → σ' 0 0 11 p = zhl h (zmvr (zhr h) N) y 4 p) →
        ∃ τ m' y', (zrs (zid h L) (R * P) 0 x).foldl (zub (zvn1 h N L)) (some (m, y)) = some (m', y') ∧ (if nI m < (σ' 1 1 0 4) then (zbI (zcall 51 [zA 0 0 9, zA 1 1 0] σ') (fun x31 σ30 => if x31 = 0 then (zev 84 50 [(0, zA 0 0 0), (1, zI x1), (2, zI (nI m)), (3, zI 0), (4, zI (nI i + 1))] [] σ30) else (zev 84 50 [(0, zA 0 0 0), (1, zI x1), (2, zI (nI m)), (3, zI 1), (4, zI (nI i + 1))] [] σ30))) else (zev 84 50 [(0, zA 0 0 0), (1, zI x1), (2, zI (nI m)), (3, zI 0), (4, zI (nI i + 1))] [] σ')) = zbF τ x1 m' ∧ zfrm zScr σ' τ ∧ ∀ p, p < 4 → τ 0 0 11 p = zhl h (zmvr (zhr h) N) y' 4 p := by
      intro σ' m y c' t' hm kp
      have e4 : σ' 1 1 0 4 = nI L := (t'.1.1 4 (by omega)).trans w.1.2.2.2.1
      rw [e4, nI_1]
      by_cases hlt : m < L
      · obtain ⟨τ2, s1, s2, s3⟩ := L_step x 0 σ' (by rw [hx, Nat.add_zero]) g c' t'
        rw [if_pos (nI_lt hlt (by omega)), E_Seatings_step, c'.1, ← hx, s1, zbI_some, zif_b]
        have kp2 : ∀ p, p < 4 → τ2 0 0 11 p = zhl h (zmvr (zhr h) N) y 4 p := fun p hp => by rw [s2 0 0 11 (by simp [zT4])]; exact kp p hp
        cases hz : zsx (zid h L) (R * P) 0 x with
        | none =>
          rw [zsx_nil g (by omega) hz]
          exact ⟨τ2, m, y, rfl, by rw [if_neg (show ¬ (none : Option (List Nat)).isSome = true by decide)]; exact L_bestEnd _ _ _ _, zfrm_m zT4_s s2, kp2⟩
        | some z =>
          obtain ⟨gz, lz⟩ := zsx_g x 0 g (by omega) hz
          have ez := zsx_con g (by omega) hz
          rw [ez, List.length_cons] at hn
          obtain ⟨τ, m', y', f1, f2, f3, f4⟩ := ih (zrs (zid h L) (R * P) 0 z).length (by omega) z (i + 1) (nI m) (some (m, y)) τ2 rfl (by omega) gz (by omega) (zSC_f (zfrm_m zT4_n s2) c') (s3 z hz) (Or.inr ⟨m, y, rfl, rfl, hm, kp2⟩)
          rw [ez]
          exact ⟨τ, m', y', f1, by rw [if_pos (show (some z).isSome = true from rfl)]; exact f2, zfrm_t (zfrm_m zT4_s s2) f3, f4⟩
      · refine ⟨σ', m, y, zub_s _ _ (fun z _ => ⟨m, y, rfl, ?_⟩), ?_, zfrm_r, kp⟩
        · have := zvn1_le h N L z
          omega
        · rw [if_neg (nI_nlt (by omega) (by omega))]
          exact L_bestEnd _ _ _ _
    have keep : ∃ σ', zcall 50 [zA 0 0 9, zA 1 1 0] τ1 = some (zI 0, σ') ∧ zfrm zScr τ1 σ' ∧ zSC σ' (zmvr (zhr h) N) (zct (zhr h) N) (R * P) (zid h L) ∧ zTr σ' h (zmvr (zhr h) N) (zct (zhr h) N) (R * P) x ∧ ∀ p, p < 4 → σ' 0 0 11 p = zhl h (zmvr (zhr h) N) x 4 p := by
      refine ⟨zcpy τ1 1 1 4 0 0 11 4, E_Seatings_keepSeats τ1 1, ?_, ?_, ?_, fun p hp => ?_⟩
      · intro c g j hn
        exact zcpy_o (fun z => hn (by obtain ⟨rfl, rfl, rfl⟩ := z; simp [zScr, zScC]))
      · unfold zSC
        rw [zcpy_o (by decide), zcpy_o (by decide)]
        exact c1
      · exact zTr_e (funext fun j => zcpy_o (by omega)) t1
      · rw [zcpy_s hp]
        exact ((zTr_IR c1 t1 hx).2.2.1 p hp).1
    rw [E_S_best_50, if_pos (show nI i < 11880 from nI_lt (b := 11880) (by omega) (by decide)), if_neg (show ¬ (1 : Int32) = 0 by decide), p1, zbI_some, List.foldl_cons]
    obtain ⟨σ', k1, k2, k3, k4, k5⟩ := keep
    have f1 : zfrm zScr σ τ1 := zfrm_m zPX_s p2
    have hc : (zub (zvn1 h N L) a x = some (zvn1 h N L x, x) ∧ x2 < nI (zvn1 h N L x)) ∨ ∃ m y, a = some (m, y) ∧ x2 = nI m ∧ m ≤ L ∧ (∀ p, p < 4 → σ 0 0 11 p = zhl h (zmvr (zhr h) N) y 4 p) ∧ ¬ m < zvn1 h N L x := by
      rcases r with ⟨rfl, rfl⟩ | ⟨m, y, rfl, rfl, hm, kp⟩
      · exact Or.inl ⟨rfl, nI_m4 _ (by omega)⟩
      · by_cases hlt : m < zvn1 h N L x
        · exact Or.inl ⟨if_pos hlt, nI_lt hlt (by omega)⟩
        · exact Or.inr ⟨m, y, rfl, rfl, hm, kp, hlt⟩
    rcases hc with ⟨e1, e2⟩ | ⟨m, y, rfl, rfl, hm, kp, hlt⟩
    · obtain ⟨τ, m', y', a1, a2, a3, a4⟩ := tail σ' (zvn1 h N L x) x k3 k4 hV k5
      rw [e1, if_pos e2, k1, zbV_some]
      exact ⟨τ, m', y', a1, a2, zfrm_t (zfrm_t f1 k2) a3, a4⟩
    · obtain ⟨τ, m', y', a1, a2, a3, a4⟩ := tail τ1 m y c1 t1 hm (fun p hp => by rw [p2 0 0 11 (by simp [zPX])]; exact kp p hp)
      rw [if_neg (nI_nlt (by omega) (by omega)), show zub (zvn1 h N L) (some (m, y)) x = some (m, y) from if_neg hlt]
      exact ⟨τ, m', y', a1, a2, zfrm_t f1 a3, a4⟩
