/-! SEATINGS: lists of SEATS, the latest mover's first -/
def zvf (l : List Nat) (s : Nat) : Bool := !l.contains s
theorem zvf_c (a : Nat) (l : List Nat) (s : Nat) : zvf (a :: l) s = (!decide (s = a) && zvf l s) := by
  unfold zvf
  by_cases h : s = a
  · subst h; simp
  · simp [h]
def zcc (ok : Nat → Bool) (f : Nat → List (List Nat)) : Nat → Nat → List (List Nat)
  | _, 0 => []
  | s, n + 1 => (if ok s = true then f s else []) ++ zcc ok f (s + 1) n
/-- all fillings of d movers more, in order -/
def zal (ok : List Nat → Nat → Bool) (M : Nat) : Nat → List Nat → List (List Nat)
  | 0, l => [l]
  | d + 1, l => zcc (ok l) (fun s => zal ok M d (s :: l)) 0 M
/-- the first idle SEAT that is free alone -/
def zoka (I : Nat → Bool) (l : List Nat) (s : Nat) : Bool := zvf l s && (!I s || decide (zct (fun j => I j && zvf l j) s = 0))
def zvn (_ : List Nat) (_ : Nat) : Bool := true
/-- SEATS that there are, no two alike -/
def zgd (M : Nat) : List Nat → Bool
  | [] => true
  | s :: r => decide (s < M) && (zvf r s && zgd M r)
theorem zgd_c {M s : Nat} {r : List Nat} : zgd M (s :: r) = true ↔ s < M ∧ zvf r s = true ∧ zgd M r = true := by
  show (decide (s < M) && (zvf r s && zgd M r)) = true ↔ _
  rw [Bool.and_eq_true, Bool.and_eq_true, decide_eq_true_iff]
/-- alike but for idle SEATS -/
def zqv (I : Nat → Bool) : List Nat → List Nat → Prop
  | [], [] => True
  | a :: x, b :: y => (a = b ∨ (I a = true ∧ I b = true)) ∧ zqv I x y
  | _, _ => False
theorem zqv_r (I : Nat → Bool) : ∀ l, zqv I l l
  | [] => trivial
  | _ :: l => ⟨Or.inl rfl, zqv_r I l⟩
/-- idle ones in it -/
def zei (I : Nat → Bool) : List Nat → Nat
  | [] => 0
  | s :: r => zei I r + (if I s = true then 1 else 0)
theorem zei_q {I : Nat → Bool} : ∀ {x y : List Nat}, zqv I x y → zei I x = zei I y
  | [], [], _ => rfl
  | a :: x, b :: y, h => by
    unfold zei
    rw [zei_q h.2]
    rcases h.1 with e | ⟨e1, e2⟩
    · rw [e]
    · rw [e1, e2]
  | [], _ :: _, h => h.elim
  | _ :: _, [], h => h.elim
theorem zqv_l {I : Nat → Bool} : ∀ {x y : List Nat}, zqv I x y → x.length = y.length
  | [], [], _ => rfl
  | _ :: _, _ :: _, h => by rw [List.length_cons, List.length_cons, zqv_l h.2]
  | [], _ :: _, h => h.elim
  | _ :: _, [], h => h.elim
theorem zvf_q {I : Nat → Bool} {s : Nat} (hs : I s = false) : ∀ {x y : List Nat}, zqv I x y → zvf x s = zvf y s
  | [], [], _ => rfl
  | a :: x, b :: y, h => by
    rw [zvf_c, zvf_c, zvf_q hs h.2]
    rcases h.1 with e | ⟨e1, e2⟩
    · rw [e]
    · have h1 : s ≠ a := fun z => by rw [z, e1] at hs; exact absurd hs (by decide)
      have h2 : s ≠ b := fun z => by rw [z, e2] at hs; exact absurd hs (by decide)
      rw [decide_eq_false h1, decide_eq_false h2]
  | [], _ :: _, h => h.elim
  | _ :: _, [], h => h.elim
/-- free idle SEATS: as many as there are, less those taken -/
theorem zcnt {I : Nat → Bool} {M : Nat} : ∀ {l : List Nat}, zgd M l = true → zct (fun j => I j && zvf l j) M + zei I l = zct I M
  | [], _ => zct_c M fun j _ => by simp [zvf]
  | s :: r, h => by
    obtain ⟨h1, h2, h3⟩ := zgd_c.mp h
    have ih := zcnt (I := I) h3
    have h4 := zct_one (b := fun j => I j && zvf r j) (c := fun j => I j && zvf (s :: r) j) (l := s) M (fun j _ hjs => by simp only [zvf_c, decide_eq_false hjs]; simp) h1 (by simp [zvf_c])
    unfold zei
    rw [← ih, ← h4]
    simp only [h2, Bool.and_true]
    omega
theorem zct_t : ∀ M, zct (fun _ => true) M = M
  | 0 => rfl
  | M + 1 => by
    unfold zct
    rw [zct_t M, if_pos rfl]
theorem zei_t : ∀ l : List Nat, zei (fun _ => true) l = l.length
  | [] => rfl
  | _ :: l => by
    unfold zei
    rw [zei_t l, if_pos rfl]
    rfl
theorem zcnt_f {M : Nat} {l : List Nat} (h : zgd M l = true) : zct (zvf l) M + l.length = M := by
  have := zcnt (I := fun _ => true) h
  rw [zct_t, zei_t] at this
  rw [← zct_c (b := fun j => true && zvf l j) M (fun j _ => Bool.true_and _)]
  exact this
theorem zct_pos {b : Nat → Bool} : ∀ M, 0 < zct b M → ∃ s, s < M ∧ b s = true ∧ zct b s = 0
  | 0, h => absurd h (Nat.lt_irrefl 0)
  | M + 1, h => by
    by_cases h0 : zct b M = 0
    · refine ⟨M, by omega, ?_, h0⟩
      unfold zct at h
      rw [h0] at h
      by_cases hb : b M = true
      · exact hb
      · rw [if_neg hb] at h; exact absurd h (by decide)
    · obtain ⟨s, h1, h2, h3⟩ := zct_pos M (Nat.pos_of_ne_zero h0)
      exact ⟨s, by omega, h2, h3⟩
theorem zct_has {b : Nat → Bool} {s : Nat} (hb : b s = true) : ∀ M, s < M → 0 < zct b M
  | 0, h => absurd h (by omega)
  | M + 1, h => by
    unfold zct
    by_cases e : s = M
    · subst e; rw [if_pos hb]; omega
    · have := zct_has hb M (by omega)
      omega
theorem zcc_m {ok : Nat → Bool} {f : Nat → List (List Nat)} {x : List Nat} : ∀ n s, x ∈ zcc ok f s n ↔ ∃ j, s ≤ j ∧ j < s + n ∧ ok j = true ∧ x ∈ f j
  | 0, s => by
    unfold zcc
    constructor
    · intro h; exact absurd h (by simp)
    · rintro ⟨j, h1, h2, -⟩; exact absurd h1 (by omega)
  | n + 1, s => by
    unfold zcc
    rw [List.mem_append, zcc_m n (s + 1)]
    constructor
    · rintro (h | ⟨j, h1, h2, h3⟩)
      · by_cases hs : ok s = true
        · rw [if_pos hs] at h; exact ⟨s, by omega, by omega, hs, h⟩
        · rw [if_neg hs] at h; exact absurd h (by simp)
      · exact ⟨j, by omega, by omega, h3⟩
    · rintro ⟨j, h1, h2, h3, h4⟩
      by_cases e : j = s
      · subst e; left; rw [if_pos h3]; exact h4
      · right; exact ⟨j, by omega, by omega, h3, h4⟩
theorem zal_m {ok : List Nat → Nat → Bool} {M d : Nat} {l x : List Nat} : x ∈ zal ok M (d + 1) l ↔ ∃ s, s < M ∧ ok l s = true ∧ x ∈ zal ok M d (s :: l) := by
  show x ∈ zcc _ _ 0 M ↔ _
  rw [zcc_m]
  constructor
  · rintro ⟨j, -, h1, h2, h3⟩; exact ⟨j, by omega, h2, h3⟩
  · rintro ⟨j, h1, h2, h3⟩; exact ⟨j, by omega, by omega, h2, h3⟩
theorem zoka_f {I : Nat → Bool} {l : List Nat} {s : Nat} (h : zoka I l s = true) : zvf l s = true := by
  unfold zoka at h
  rw [Bool.and_eq_true] at h
  exact h.1
theorem zal_sub {I : Nat → Bool} {M : Nat} {x : List Nat} : ∀ d l, x ∈ zal (zoka I) M d l → x ∈ zal zvf M d l
  | 0, _, h => h
  | d + 1, l, h => by
    obtain ⟨s, h1, h2, h3⟩ := zal_m.mp h
    exact zal_m.mpr ⟨s, h1, zoka_f h2, zal_sub d _ h3⟩
/-- what the fillings are -/
theorem zal_e {M : Nat} {x : List Nat} : ∀ d l, zgd M l = true → (x ∈ zal zvf M d l ↔ ∃ y : List Nat, x = y ++ l ∧ y.length = d ∧ zgd M x = true)
  | 0, l, hl => by
    show x ∈ [l] ↔ _
    rw [List.mem_singleton]
    constructor
    · rintro rfl; exact ⟨[], rfl, rfl, hl⟩
    · rintro ⟨y, e, h, -⟩
      rw [List.length_eq_zero_iff] at h
      rw [e, h]
      rfl
  | d + 1, l, hl => by
    rw [zal_m]
    constructor
    · rintro ⟨s, h1, h2, h3⟩
      obtain ⟨y, e, h4, h5⟩ := (zal_e d (s :: l) (zgd_c.mpr ⟨h1, h2, hl⟩)).mp h3
      exact ⟨y ++ [s], by rw [e, List.append_assoc]; rfl, by rw [List.length_append, h4]; rfl, h5⟩
    · rintro ⟨y, e, h4, h5⟩
      obtain ⟨z, s, rfl⟩ : ∃ z s, y = z ++ [s] := ⟨y.dropLast, y.getLast (fun h => by rw [h] at h4; exact absurd h4 (by simp)), (List.dropLast_concat_getLast _).symm⟩
      rw [List.append_assoc] at e
      have e2 : x = z ++ (s :: l) := e
      have hz : z.length = d := by rw [List.length_append] at h4; simp at h4; exact h4
      have g : zgd M (s :: l) = true := by
        rw [e2] at h5
        clear e e2 h4 hz
        induction z with
        | nil => exact h5
        | cons a z ih => exact ih (zgd_c.mp h5).2.2
      obtain ⟨g1, g2, -⟩ := zgd_c.mp g
      exact ⟨s, g1, g2, (zal_e d (s :: l) g).mpr ⟨z, e2, hz, h5⟩⟩
theorem zal_g {I : Nat → Bool} {M d : Nat} {l x : List Nat} (hl : zgd M l = true) (h : x ∈ zal (zoka I) M d l) : zgd M x = true ∧ x.length = l.length + d := by
  obtain ⟨y, e, h1, h2⟩ := (zal_e d l hl).mp (zal_sub d l h)
  exact ⟨h2, by rw [e, List.length_append, h1, Nat.add_comm]⟩
/-- each filling has its like among the first ones -/
theorem zal_tw {I : Nat → Bool} {M : Nat} : ∀ (d : Nat) {l1 l2 x : List Nat}, zgd M l1 = true → zgd M l2 = true → zqv I l1 l2 → x ∈ zal zvf M d l1 → ∃ y, y ∈ zal (zoka I) M d l2 ∧ zqv I x y
  | 0, l1, l2, x, _, _, hq, hx => by
    obtain rfl := List.mem_singleton.mp hx
    exact ⟨l2, List.mem_singleton.mpr rfl, hq⟩
  | d + 1, l1, l2, x, h1, h2, hq, hx => by
    obtain ⟨s, s1, s2, s3⟩ := zal_m.mp hx
    have g1 : zgd M (s :: l1) = true := zgd_c.mpr ⟨s1, s2, h1⟩
    cases hi : I s with
    | false =>
      have f2 : zvf l2 s = true := by rw [← zvf_q hi hq]; exact s2
      obtain ⟨y, y1, y2⟩ := zal_tw d g1 (zgd_c.mpr ⟨s1, f2, h2⟩) (show zqv I (s :: l1) (s :: l2) from ⟨Or.inl rfl, hq⟩) s3
      refine ⟨y, zal_m.mpr ⟨s, s1, ?_, y1⟩, y2⟩
      unfold zoka
      rw [f2, hi]
      rfl
    | true =>
      have c1 := zcnt (I := I) h1
      have c2 := zcnt (I := I) h2
      have c3 : 0 < zct (fun j => I j && zvf l1 j) M := zct_has (by simp only [hi, s2]; rfl) M s1
      rw [zei_q hq] at c1
      obtain ⟨t, t1, t2, t3⟩ := zct_pos (b := fun j => I j && zvf l2 j) M (by omega)
      simp only [Bool.and_eq_true] at t2
      obtain ⟨y, y1, y2⟩ := zal_tw d g1 (zgd_c.mpr ⟨t1, t2.2, h2⟩) (show zqv I (s :: l1) (t :: l2) from ⟨Or.inr ⟨hi, t2.1⟩, hq⟩) s3
      refine ⟨y, zal_m.mpr ⟨t, t1, ?_, y1⟩, y2⟩
      unfold zoka
      rw [t2.2, t3, decide_eq_true rfl, Bool.or_true]
      rfl
/-! the first best one -/
def zub (V : List Nat → Nat) (a : Option (Nat × List Nat)) (x : List Nat) : Option (Nat × List Nat) := match a with
  | none => some (V x, x)
  | some (m, y) => if m < V x then some (V x, x) else some (m, y)
def ztop (V : List Nat → Nat) (a : Option (Nat × List Nat)) (x : List Nat) : Prop := ∃ m y, a = some (m, y) ∧ V x ≤ m
theorem ztop_u {V : List Nat → Nat} {a : Option (Nat × List Nat)} {x : List Nat} (z : List Nat) (h : ztop V a x) : ztop V (zub V a z) x := by
  obtain ⟨m, y, rfl, h1⟩ := h
  unfold zub
  by_cases hz : m < V z
  · exact ⟨V z, z, if_pos hz, by omega⟩
  · exact ⟨m, y, if_neg hz, h1⟩
theorem ztop_f {V : List Nat → Nat} {x : List Nat} : ∀ (L : List (List Nat)) (a : Option (Nat × List Nat)), ztop V a x → ztop V (L.foldl (zub V) a) x
  | [], _, h => h
  | z :: L, a, h => ztop_f L (zub V a z) (ztop_u z h)
theorem ztop_n {V : List Nat → Nat} (a : Option (Nat × List Nat)) (x : List Nat) : ztop V (zub V a x) x := by
  cases a with
  | none => exact ⟨V x, x, rfl, Nat.le_refl _⟩
  | some q =>
    obtain ⟨m, y⟩ := q
    unfold zub
    by_cases hz : m < V x
    · exact ⟨V x, x, if_pos hz, Nat.le_refl _⟩
    · exact ⟨m, y, if_neg hz, by omega⟩
theorem ztop_m {V : List Nat → Nat} {x : List Nat} : ∀ (L : List (List Nat)) (a : Option (Nat × List Nat)), x ∈ L → ztop V (L.foldl (zub V) a) x
  | [], _, h => absurd h (by simp)
  | z :: L, a, h => by
    rcases List.mem_cons.mp h with e | h2
    · subst e; exact ztop_f L _ (ztop_n a x)
    · exact ztop_m L _ h2
theorem zub_s {V : List Nat → Nat} : ∀ (L : List (List Nat)) (a : Option (Nat × List Nat)), (∀ x, x ∈ L → ztop V a x) → L.foldl (zub V) a = a
  | [], _, _ => rfl
  | z :: L, a, h => by
    have e : zub V a z = a := by
      obtain ⟨m, y, rfl, h1⟩ := h z (List.mem_cons_self ..)
      unfold zub
      exact if_neg (by omega)
    show L.foldl (zub V) (zub V a z) = a
    rw [e]
    exact zub_s L a (fun x hx => h x (List.mem_cons_of_mem _ hx))
theorem zbest_l {I : Nat → Bool} {M K : Nat} {V : List Nat → Nat} (hV : ∀ x y, zgd M x = true → zgd M y = true → x.length = K → zqv I x y → V x = V y) : ∀ (d : Nat) (l : List Nat) (a : Option (Nat × List Nat)), zgd M l = true → l.length + d = K → (zal zvf M d l).foldl (zub V) a = (zal (zoka I) M d l).foldl (zub V) a
  | 0, _, _, _, _ => rfl
  | d + 1, l, a, hl, hK => by
    show (zcc _ _ 0 M).foldl (zub V) a = (zcc _ _ 0 M).foldl (zub V) a
    have go : ∀ (n s : Nat) (a : Option (Nat × List Nat)), s + n = M → (∀ t, t < s → zvf l t = true → ∀ x, x ∈ zal zvf M d (t :: l) → ztop V a x) → (zcc (zvf l) (fun s => zal zvf M d (s :: l)) s n).foldl (zub V) a = (zcc (zoka I l) (fun s => zal (zoka I) M d (s :: l)) s n).foldl (zub V) a := by
      intro n
      induction n with
      | zero => intro s a _ _; rfl
      | succ n ih =>
        intro s a hs hI
        unfold zcc
        rw [List.foldl_append, List.foldl_append]
        by_cases hf : zvf l s = true
        · have g : zgd M (s :: l) = true := zgd_c.mpr ⟨by omega, hf, hl⟩
          rw [if_pos hf]
          by_cases ho : zoka I l s = true
          · rw [if_pos ho, zbest_l hV d (s :: l) a g (by rw [List.length_cons]; omega)]
            refine ih (s + 1) _ (by omega) (fun t ht hft x hx => ?_)
            by_cases e : t = s
            · subst e
              rw [← zbest_l hV d (t :: l) a g (by rw [List.length_cons]; omega)]
              exact ztop_m _ _ hx
            · exact ztop_f _ _ (hI t (by omega) hft x hx)
          · rw [if_neg ho]
            -- an idle one that isn't the first: its like has been seen
            have hno : I s = true ∧ ¬ zct (fun j => I j && zvf l j) s = 0 := by
              unfold zoka at ho
              rw [hf] at ho
              cases hi : I s with
              | false => rw [hi] at ho; exact absurd rfl ho
              | true =>
                refine ⟨rfl, fun z => ho ?_⟩
                rw [z, decide_eq_true rfl, Bool.or_true]
                rfl
            obtain ⟨t, t1, t2, t3⟩ := zct_pos (b := fun j => I j && zvf l j) s (by omega)
            simp only [Bool.and_eq_true] at t2
            have gt : zgd M (t :: l) = true := zgd_c.mpr ⟨by omega, t2.2, hl⟩
            have hall : ∀ x, x ∈ zal zvf M d (s :: l) → ztop V a x := by
              intro x hx
              obtain ⟨y, y1, y2⟩ := zal_tw d g gt (show zqv I (s :: l) (t :: l) from ⟨Or.inr ⟨hno.1, t2.1⟩, zqv_r I l⟩) hx
              obtain ⟨m, z, e1, e2⟩ := hI t t1 t2.2 y (zal_sub d _ y1)
              obtain ⟨w, w1, w2, w3⟩ := (zal_e d (s :: l) g).mp hx
              have gy := zal_g gt y1
              exact ⟨m, z, e1, by rw [hV x y w3 gy.1 (by rw [w1, List.length_append, w2, List.length_cons]; omega) y2]; exact e2⟩
            rw [zub_s _ _ hall]
            refine ih (s + 1) a (by omega) (fun q hq hfq x hx => ?_)
            by_cases e : q = s
            · subst e; exact hall x hx
            · exact hI q (by omega) hfq x hx
        · have ho : ¬ zoka I l s = true := fun z => hf (zoka_f z)
          rw [if_neg hf, if_neg ho]
          refine ih (s + 1) a (by omega) (fun t ht hft x hx => ?_)
          by_cases e : t = s
          · subst e; exact absurd hft hf
          · exact hI t (by omega) hft x hx
    exact go M 0 a (by omega) (fun t ht => absurd ht (by omega))
