theorem zfl_c {α : Type} {f g : α → List Nat → α} : ∀ (L : List (List Nat)) (a : α), (∀ x, x ∈ L → ∀ a, f a x = g a x) → L.foldl f a = L.foldl g a
  | [], _, _ => rfl
  | z :: L, a, h => by
    rw [List.foldl_cons, List.foldl_cons, h z (List.mem_cons_self ..)]
    exact zfl_c L _ (fun x hx => h x (List.mem_cons_of_mem _ hx))
theorem zvn_m {M : Nat} {x : List Nat} : ∀ (d : Nat) (l : List Nat), zvlo M l → x ∈ zal zvn M d l → x.length = l.length + d ∧ zvlo M x
  | 0, l, hl, h => by
    obtain rfl := List.mem_singleton.mp h
    exact ⟨rfl, hl⟩
  | d + 1, l, hl, h => by
    obtain ⟨s, h1, -, h3⟩ := zal_m.mp h
    have := zvn_m d (s :: l) ⟨h1, hl⟩ h3
    rw [List.length_cons] at this
    exact ⟨by omega, this.2⟩
/-- a loop over rows that looks at whole SEATINGS alone: over all of them -/
theorem zit_v {α : Type} {M k : Nat} {u : α → List Nat → α} (a : α) : zit (fun row a => if zgd M (zdg M k row) = true then u a (zdg M k row) else a) 0 (M ^ k) a = (zal zvf M k []).foldl u a := by
  have h1 := zit_l (f := fun row a => if zgd M (zdg M k row) = true then u a (zdg M k row) else a) (M := M) k [] a
  rw [show zcd M [] * M ^ k = 0 from Nat.zero_mul _] at h1
  rw [h1, ← zvn_v (u := u) k [] a rfl]
  refine zfl_c _ _ (fun x hx a => ?_)
  obtain ⟨e1, e2⟩ := zvn_m k [] trivial hx
  have e : zdg M k (zcd M x) = x := by
    have := zdg_cd e2
    rw [e1, List.length_nil, Nat.zero_add] at this
    exact this
  rw [e]
theorem zids {h : Nat → Nat → Int32} {R P N L S : Nat} (w : zWF h R P N L S) : ∀ i, i < L → h 8 i ≠ -4 := fun i hi => by
  obtain ⟨k, hk, e⟩ := w.2.2.2.2.2.2.2.2.1 i hi
  rw [e]
  exact nI_ne4 (by omega)
theorem zfsL {h : Nat → Nat → Int32} {R P N L S : Nat} (w : zWF h R P N L S) : zfs (zid h L) (R * P) (zct (zhr h) N) [] :: zrs (zid h L) (R * P) 0 (zfs (zid h L) (R * P) (zct (zhr h) N) []) = zal (zoka (zid h L)) (R * P) (zct (zhr h) N) [] ∧ (zrs (zid h L) (R * P) 0 (zfs (zid h L) (R * P) (zct (zhr h) N) [])).length + 1 ≤ 11880 ∧ zgd (R * P) (zfs (zid h L) (R * P) (zct (zhr h) N) []) = true ∧ (zfs (zid h L) (R * P) (zct (zhr h) N) []).length = zct (zhr h) N := by
  have hN := w.2.1.2.2.2.2.1
  have h12 := zRP12 w.2.1.2.1 w.2.1.2.2.2.1
  have hkM := zkM w
  have hk4 := Nat.le_trans (zct_le (zhr h) N) hN
  have h1 := zwk0 (I := zid h L) (M := R * P) (zct (zhr h) N) [] rfl (by simp; exact hkM)
  rw [show zrs (zid h L) (R * P) (zct (zhr h) N) [] = [] from rfl, List.append_nil] at h1
  have h2 := zal_len (I := zid h L) (M := R * P) (zct (zhr h) N) [] rfl
  have h3 := zpr_le (R * P) (by omega) (zct (zhr h) N) (by omega)
  have h4 := zfs_g (I := zid h L) (M := R * P) (zct (zhr h) N) [] rfl (by simp; exact hkM)
  rw [h1, List.length_cons, List.length_nil] at h2
  rw [List.length_nil, Nat.zero_add] at h4
  exact ⟨h1.symm, by omega, h4.1, h4.2⟩
/-- the best one: the same for both -/
theorem zbest_2 {h : Nat → Nat → Int32} {R P N L S : Nat} (w : zWF h R P N L S) : zit (zbF2 h R P N L) 0 ((R * P) ^ zct (zhr h) N) none = (zal (zoka (zid h L)) (R * P) (zct (zhr h) N) []).foldl (zub (zvn1 h N L)) none := by
  have hN := w.2.1.2.2.2.2.1
  have h12 := zRP12 w.2.1.2.1 w.2.1.2.2.2.1
  have h1 := zit_v (M := R * P) (k := zct (zhr h) N) (u := zub (zvn1 h N L)) none
  have h2 : zit (zbF2 h R P N L) 0 ((R * P) ^ zct (zhr h) N) none = (zal zvf (R * P) (zct (zhr h) N) []).foldl (zub (zvn1 h N L)) none := h1
  rw [h2]
  exact zbest_l (I := zid h L) (M := R * P) (K := zct (zhr h) N) (fun x y gx gy hx hq => zspn_E (zEqh_l zmvr_i h12 (zids w) gx gy (by omega) hq) hN) (zct (zhr h) N) [] none rfl (by simp)
theorem zal_z {h : Nat → Nat → Int32} {R P N L S : Nat} (w : zWF h R P N L S) {m : Nat} {y : List Nat} : ∀ (X : List (List Nat)) (a : Option (Nat × List Nat)), X.foldl (zub (zvn1 h N L)) a = some (m, y) → (a = some (m, y)) ∨ (y ∈ X ∧ m = zvn1 h N L y)
  | [], a, e => Or.inl e
  | z :: X, a, e => by
    rcases zal_z w X _ e with e1 | ⟨e1, e2⟩
    · cases a with
      | none =>
        cases e1
        exact Or.inr ⟨List.mem_cons_self .., rfl⟩
      | some q =>
        obtain ⟨m2, y2⟩ := q
        by_cases hl : m2 < zvn1 h N L z
        · rw [show zub (zvn1 h N L) (some (m2, y2)) z = some (zvn1 h N L z, z) from if_pos hl] at e1
          cases e1
          exact Or.inr ⟨List.mem_cons_self .., rfl⟩
        · rw [show zub (zvn1 h N L) (some (m2, y2)) z = some (m2, y2) from if_neg hl] at e1
          exact Or.inl e1
    · exact Or.inr ⟨List.mem_cons_of_mem _ e1, e2⟩
/-- both, at what is asked -/
theorem L_bestX {σ : ZS} {h : Nat → Nat → Int32} {R P N L S : Nat} (hh : σ 1 0 = h) (c : zCx σ h R P N L S) (x1 : Int32) :
    ∃ τ m y, (∃ τ0, zcall 7 [zA 1 1 0, zA 1 0 0] σ = some (zI 0, τ0) ∧ ∃ τ1, zcall 47 [zA 0 0 9, zA 1 1 0] τ0 = some (zI 0, τ1) ∧ zev 84 50 [(0, zA 0 0 0), (1, zI x1), (2, zI (-4)), (3, zI 1), (4, zI 0)] [] τ1 = zbF τ x1 m) ∧ zfrm zScr σ τ ∧ (∀ p, p < 4 → τ 0 0 11 p = zhl h (zmvr (zhr h) N) y 4 p) ∧
      ∃ υ, zev 171 24 [(0, zA 3 0 0), (1, zI x1), (2, zI (-1)), (3, zI 0), (4, zI 0)] [] τ = (if x1 = 0 then (some (zI (nI m), υ)) else (zbI (zcall 160 [zA 3 0 0, zI (x1 - 10), zI 0] υ) (fun x32 σ31 => some (zI x32, σ31)))) ∧ zfrm zScr τ υ ∧ zMN υ (zhl h (zmvr (zhr h) N) y) zno P N L := by
  have w := c.1
  have hN := w.2.1.2.2.2.2.1
  have h12 := zRP12 w.2.1.2.1 w.2.1.2.2.2.1
  obtain ⟨l1, l2, l3, l4⟩ := zfsL w
  obtain ⟨τ0, t1, t2, t3⟩ := L_trial σ
  rw [hh] at t3
  obtain ⟨τ1, u1, u2, u3, u4⟩ := L_begin t3 w
  obtain ⟨τ, m, y, b1, b2, b3, b4⟩ := L_bestC w x1 _ _ 0 (-4) none τ1 rfl (by omega) l3 l4 u3 u4 (Or.inl ⟨rfl, rfl⟩)
  have f : zfrm zScr σ τ := zfrm_t (zfrm_t (zfrm_m zHG1_s t2) u2) b3
  rw [l1] at b1
  have c2 := zCx_f f c
  obtain ⟨υ, v1, v2⟩ := L_bestM x1 ((R * P) ^ zct (zhr h) N) 0 none τ (by omega) c2 (fun _ _ e => absurd e (by simp))
  rw [zbest_2 w, b1] at v1
  have hy : y ∈ zal (zoka (zid h L)) (R * P) (zct (zhr h) N) [] := by
    rcases zal_z w _ _ b1 with e | ⟨e, -⟩
    · exact absurd e (by simp)
    · exact e
  obtain ⟨gy, ly⟩ := zal_g (l := []) rfl hy
  rw [List.length_nil, Nat.zero_add] at ly
  obtain ⟨ω, o1, o2, o3⟩ := L_seatsBy (zCx_f v2 c2) ly (zgd_lo gy)
  refine ⟨τ, m, y, ⟨τ0, t1, τ1, u1, b2⟩, f, b4, ω, ?_, zfrm_t v2 o2, o3⟩
  rw [show zev 171 24 [(0, zA 3 0 0), (1, zI x1), (2, zI (-1)), (3, zI 0), (4, zI 0)] [] τ = _ from v1, E_M_best_24, L_seatings (zCx_f v2 c2), zbI_some, if_neg (nI_nlt (Nat.le_refl _) (by have := zT4k (h := h) h12 hN; omega))]
  show zbI (zcall 174 [zA 3 0 0, zI (nI (zcd (R * P) y))] υ) _ = _
  rw [o1, zbI_some]
  rfl
theorem Q_best {σ : ZS} (hi : zInv σ) (x : Int32) : zPair (zcall 84 [zA 0 0 0, zI x]) (zcall 171 [zA 3 0 0, zI x]) σ := by
  obtain ⟨R, P, N, L, S, a1, a2, a3, a4, a5, a6, a7, a8⟩ := id hi
  have hN : N ≤ 4 := a1.2.1.2.2.2.2.1
  have n1 : σ 1 0 0 3 = nI N := a1.1.2.2.1
  have n2 : σ 3 0 0 5 = nI N := a3.2.2.1.trans n1
  obtain ⟨τ, m, y, ⟨τ0, b1, τ1, b2, b3⟩, b4, b5, υ, b6, b7, b8⟩ := L_bestX rfl (zCx_of a1 a2 a3) x
  have e5 : τ 3 0 0 5 = nI N := by rw [b4 3 0 0 (by simp [zScr, zScC])]; exact n2
  have hfin := zInv_q b7 (zInv_q b4 hi)
  unfold zPair
  simp only [E_S_best, E_M_best, L_hasOne, L_isOne, zbI_some, zif_b, n1]
  by_cases h0 : x = 0
  · refine ⟨nI m, τ, υ, ?_, ?_, hfin⟩
    · rw [if_pos h0, b1, zbV_some, b2, zbV_some, b3]
      exact if_pos h0
    · rw [if_pos h0, b6, if_pos h0]
  · rcases zin2_c (x - 10) (n := N) (by omega) with h1 | ⟨p, hp, e, h1⟩
    · refine ⟨-1, σ, σ, ?_, ?_, hi⟩
      · rw [if_neg h0, h1]
        rfl
      · rw [if_neg h0, n2, h1]
        rfl
    · refine ⟨τ 0 0 11 p, τ, υ, ?_, ?_, hfin⟩
      · rw [if_neg h0, h1, if_pos rfl, b1, zbV_some, b2, zbV_some, b3]
        unfold zbF
        rw [if_neg h0, e, zck_nI (by omega) (by decide), nI_clamp (by omega)]
      · rw [if_neg h0, e5, h1, if_pos rfl, b6, if_neg h0, e, L_of0 (by omega), zbI_some, (b8.2.2.2.2.2.1 p hp).1, if_neg (show ¬ zno p = true from Bool.false_ne_true), b5 p (by omega)]
