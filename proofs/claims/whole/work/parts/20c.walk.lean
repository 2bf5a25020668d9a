/-! rows by numbers; the class's walk -/
def zcd (M : Nat) : List Nat → Nat
  | [] => 0
  | s :: r => zcd M r * M + s
def zdg (M : Nat) : Nat → Nat → List Nat
  | 0, _ => []
  | k + 1, x => (x % M) :: zdg M k (x / M)
theorem zdg_l (M : Nat) : ∀ k x, (zdg M k x).length = k
  | 0, _ => rfl
  | k + 1, x => by
    unfold zdg
    rw [List.length_cons, zdg_l M k]
def zvlo (M : Nat) : List Nat → Prop
  | [] => True
  | s :: r => s < M ∧ zvlo M r
theorem zgd_lo {M : Nat} : ∀ {x : List Nat}, zgd M x = true → zvlo M x
  | [], _ => trivial
  | _ :: _, h => ⟨(zgd_c.mp h).1, zgd_lo (zgd_c.mp h).2.2⟩
theorem zdg_lo {M : Nat} (hM : 0 < M) : ∀ k x, zvlo M (zdg M k x)
  | 0, _ => trivial
  | k + 1, x => ⟨Nat.mod_lt _ hM, zdg_lo hM k _⟩
theorem zdg_cd {M : Nat} : ∀ {x : List Nat}, zvlo M x → zdg M x.length (zcd M x) = x
  | [], _ => rfl
  | s :: r, h => by
    have hM : 0 < M := by have := h.1; omega
    show ((zcd M r * M + s) % M) :: zdg M r.length ((zcd M r * M + s) / M) = s :: r
    rw [Nat.mul_comm, Nat.mul_add_mod, Nat.mod_eq_of_lt h.1, Nat.mul_add_div hM, Nat.div_eq_of_lt h.1, Nat.add_zero, zdg_cd h.2]
theorem zcd_dg {M : Nat} : ∀ (k x : Nat), x < M ^ k → zcd M (zdg M k x) = x
  | 0, x, h => by
    rw [Nat.pow_zero] at h
    show 0 = x
    omega
  | k + 1, x, h => by
    show zcd M (zdg M k (x / M)) * M + x % M = x
    rw [Nat.pow_succ] at h
    rw [zcd_dg k (x / M) (Nat.div_lt_of_lt_mul (by rw [Nat.mul_comm]; exact h)), Nat.mul_comm]
    exact Nat.div_add_mod x M
theorem zcd_lt {M : Nat} : ∀ {x : List Nat}, zvlo M x → zcd M x < M ^ x.length
  | [], _ => Nat.lt_of_lt_of_eq Nat.one_pos (Nat.pow_zero M).symm
  | s :: r, h => by
    have h1 := zcd_lt h.2
    have h2 : (zcd M r + 1) * M ≤ M ^ r.length * M := Nat.mul_le_mul_right M h1
    rw [Nat.add_mul, Nat.one_mul] at h2
    have h3 := h.1
    show zcd M r * M + s < M ^ (r.length + 1)
    rw [Nat.pow_succ]
    omega
theorem zit_add {α : Type} {f : Nat → α → α} : ∀ (a b i : Nat) (s : α), zit f i (a + b) s = zit f (i + a) b (zit f i a s)
  | 0, b, i, s => by
    rw [Nat.zero_add, Nat.add_zero]
    rfl
  | a + 1, b, i, s => by
    rw [show a + 1 + b = (a + b) + 1 by omega, show i + (a + 1) = i + 1 + a by omega]
    exact zit_add a b (i + 1) (f i s)
/-- the reference's loop over rows goes through all fillings -/
theorem zit_l {α : Type} {f : Nat → α → α} {M : Nat} : ∀ (d : Nat) (l : List Nat) (a : α), zit f (zcd M l * M ^ d) (M ^ d) a = (zal zvn M d l).foldl (fun a x => f (zcd M x) a) a
  | 0, l, a => by
    rw [Nat.pow_zero, Nat.mul_one]
    rfl
  | d + 1, l, a => by
    have go : ∀ (n s : Nat) (a : α), zit f ((zcd M l * M + s) * M ^ d) (n * M ^ d) a = (zcc (zvn l) (fun s => zal zvn M d (s :: l)) s n).foldl (fun a x => f (zcd M x) a) a := by
      intro n
      induction n with
      | zero =>
        intro s a
        rw [Nat.zero_mul]
        rfl
      | succ n ih =>
        intro s a
        have e := zit_l (f := f) (M := M) d (s :: l) a
        show _ = (((if true = true then zal zvn M d (s :: l) else []) ++ zcc (zvn l) (fun s => zal zvn M d (s :: l)) (s + 1) n)).foldl (fun a x => f (zcd M x) a) a
        rw [if_pos rfl, List.foldl_append, ← e, ← ih (s + 1), Nat.add_mul n, Nat.one_mul, Nat.add_comm (n * M ^ d), zit_add]
        show zit f ((zcd M l * M + s) * M ^ d + M ^ d) _ _ = _
        rw [show (zcd M l * M + s) * M ^ d + M ^ d = (zcd M l * M + (s + 1)) * M ^ d by rw [← Nat.add_assoc, Nat.add_mul _ 1, Nat.one_mul]]
        rfl
    have := go M 0 a
    rw [Nat.add_zero] at this
    show _ = (zcc (zvn l) (fun s => zal zvn M d (s :: l)) 0 M).foldl (fun a x => f (zcd M x) a) a
    rw [← this, Nat.pow_succ, Nat.mul_comm (M ^ d) M, Nat.mul_assoc]
theorem zcc_f {α : Type} {ok1 ok2 : Nat → Bool} {f1 f2 : Nat → List (List Nat)} {g1 g2 : α → List Nat → α} : ∀ (n s : Nat) (a : α), (∀ j, s ≤ j → j < s + n → ∀ a, (if ok1 j = true then (f1 j).foldl g1 a else a) = if ok2 j = true then (f2 j).foldl g2 a else a) → (zcc ok1 f1 s n).foldl g1 a = (zcc ok2 f2 s n).foldl g2 a
  | 0, _, _, _ => rfl
  | n + 1, s, a, h => by
    have h0 := h s (Nat.le_refl _) (by omega) a
    have e : ∀ (b : Bool) (F : List (List Nat)) (g : α → List Nat → α), (if b = true then F else []).foldl g a = if b = true then F.foldl g a else a := by
      intro b F g
      cases b <;> rfl
    show ((if ok1 s = true then f1 s else []) ++ zcc ok1 f1 (s + 1) n).foldl g1 a = ((if ok2 s = true then f2 s else []) ++ zcc ok2 f2 (s + 1) n).foldl g2 a
    rw [List.foldl_append, List.foldl_append, e, e, h0]
    exact zcc_f n (s + 1) _ (fun j h1 h2 => h j (by omega) (by omega))
theorem zvn_bad {α : Type} {M : Nat} {u : α → List Nat → α} : ∀ (d : Nat) (l : List Nat) (a : α), ¬ zgd M l = true → (zal zvn M d l).foldl (fun a x => if zgd M x = true then u a x else a) a = a
  | 0, l, a, h => if_neg h
  | d + 1, l, a, h => by
    have e := zcc_f (ok1 := zvn l) (ok2 := fun _ => false) (f1 := fun s => zal zvn M d (s :: l)) (f2 := fun _ => []) (g1 := fun a x => if zgd M x = true then u a x else a) (g2 := fun a _ => a) M 0 a (fun j _ _ a => by
      show (if true = true then _ else a) = if false = true then _ else a
      rw [if_pos rfl, if_neg (by decide)]
      exact zvn_bad d (j :: l) a (fun z => h (zgd_c.mp z).2.2))
    have z : ∀ n s, zcc (fun _ => false) (fun _ => ([] : List (List Nat))) s n = [] := by
      intro n
      induction n with
      | zero => intro s; rfl
      | succ n ih =>
        intro s
        show [] ++ zcc _ _ (s + 1) n = []
        rw [ih]
        rfl
    show (zcc (zvn l) (fun s => zal zvn M d (s :: l)) 0 M).foldl _ a = a
    rw [e, z]
    rfl
theorem zvn_v {α : Type} {M : Nat} {u : α → List Nat → α} : ∀ (d : Nat) (l : List Nat) (a : α), zgd M l = true → (zal zvn M d l).foldl (fun a x => if zgd M x = true then u a x else a) a = (zal zvf M d l).foldl u a
  | 0, l, a, h => if_pos h
  | d + 1, l, a, h => by
    refine zcc_f M 0 a fun j _ hj a => ?_
    show (if true = true then _ else a) = _
    rw [if_pos rfl]
    by_cases hf : zvf l j = true
    · rw [if_pos hf]
      exact zvn_v d (j :: l) a (zgd_c.mpr ⟨by omega, hf, h⟩)
    · rw [if_neg hf]
      exact zvn_bad d (j :: l) a (fun z => hf (zgd_c.mp z).2.1)
/-! the least number from s on -/
def zlf (b : Nat → Bool) : Nat → Nat → Option Nat
  | _, 0 => none
  | s, n + 1 => if b s = true then some s else zlf b (s + 1) n
theorem zlf_n {b : Nat → Bool} : ∀ n s, zlf b s n = none → ∀ j, s ≤ j → j < s + n → b j = false
  | 0, s, _, j, h1, h2 => absurd h1 (by omega)
  | n + 1, s, h, j, h1, h2 => by
    unfold zlf at h
    by_cases hb : b s = true
    · rw [if_pos hb] at h; exact absurd h (by simp)
    · rw [if_neg hb] at h
      by_cases e : j = s
      · rw [e]; exact Bool.eq_false_iff.mpr hb
      · exact zlf_n n (s + 1) h j (by omega) (by omega)
theorem zlf_s {b : Nat → Bool} {t : Nat} : ∀ n s, zlf b s n = some t → s ≤ t ∧ t < s + n ∧ b t = true ∧ ∀ j, s ≤ j → j < t → b j = false
  | 0, s, h => absurd h (by simp [zlf])
  | n + 1, s, h => by
    unfold zlf at h
    by_cases hb : b s = true
    · rw [if_pos hb] at h
      cases h
      exact ⟨Nat.le_refl _, by omega, hb, fun j h1 h2 => absurd h1 (by omega)⟩
    · rw [if_neg hb] at h
      obtain ⟨h1, h2, h3, h4⟩ := zlf_s n (s + 1) h
      refine ⟨by omega, by omega, h3, fun j g1 g2 => ?_⟩
      by_cases e : j = s
      · rw [e]; exact Bool.eq_false_iff.mpr hb
      · exact h4 j (by omega) g2
theorem zcc_n {ok : Nat → Bool} {f : Nat → List (List Nat)} : ∀ n s, (∀ j, s ≤ j → j < s + n → ok j = false) → zcc ok f s n = []
  | 0, _, _ => rfl
  | n + 1, s, h => by
    show (if ok s = true then f s else []) ++ zcc ok f (s + 1) n = []
    rw [if_neg (by rw [h s (Nat.le_refl _) (by omega)]; decide), zcc_n n (s + 1) (fun j h1 h2 => h j (by omega) (by omega))]
    rfl
theorem zcc_s {ok : Nat → Bool} {f : Nat → List (List Nat)} {t : Nat} (ht : ok t = true) : ∀ n s, s ≤ t → t < s + n → (∀ j, s ≤ j → j < t → ok j = false) → zcc ok f s n = f t ++ zcc ok f (t + 1) (s + n - (t + 1))
  | 0, s, h1, h2, _ => absurd h1 (by omega)
  | n + 1, s, h1, h2, h => by
    show (if ok s = true then f s else []) ++ zcc ok f (s + 1) n = _
    by_cases e : s = t
    · subst e
      rw [if_pos ht, show s + (n + 1) - (s + 1) = n by omega]
    · rw [if_neg (by rw [h s (Nat.le_refl _) (by omega)]; decide), zcc_s ht n (s + 1) (by omega) (by omega) (fun j g1 g2 => h j (by omega) g2), show s + 1 + n - (t + 1) = s + (n + 1) - (t + 1) by omega]
      rfl
/-- d movers more, each in the first SEAT that is allowed -/
def zfs (I : Nat → Bool) (M : Nat) : Nat → List Nat → List Nat
  | 0, l => l
  | d + 1, l => zfs I M d ((zlf (zoka I l) 0 M).getD 0 :: l)
/-- what comes behind, with d movers behind the last of them -/
def zrs (I : Nat → Bool) (M : Nat) : Nat → List Nat → List (List Nat)
  | _, [] => []
  | d, s :: r => zcc (zoka I r) (fun t => zal (zoka I) M d (t :: r)) (s + 1) (M - (s + 1)) ++ zrs I M (d + 1) r
/-- the next one -/
def zsx (I : Nat → Bool) (M : Nat) : Nat → List Nat → Option (List Nat)
  | _, [] => none
  | d, s :: r => match zlf (zoka I r) (s + 1) (M - (s + 1)) with
    | some t => some (zfs I M d (t :: r))
    | none => zsx I M (d + 1) r
theorem zrs_c {I : Nat → Bool} {M d s : Nat} {r : List Nat} : zrs I M d (s :: r) = zcc (zoka I r) (fun t => zal (zoka I) M d (t :: r)) (s + 1) (M - (s + 1)) ++ zrs I M (d + 1) r := rfl
theorem zsx_n {I : Nat → Bool} {M d s : Nat} {r : List Nat} (h : zlf (zoka I r) (s + 1) (M - (s + 1)) = none) : zsx I M d (s :: r) = zsx I M (d + 1) r := by
  show (match zlf (zoka I r) (s + 1) (M - (s + 1)) with | some t => some (zfs I M d (t :: r)) | none => zsx I M (d + 1) r) = _
  rw [h]
theorem zsx_s {I : Nat → Bool} {M d s t : Nat} {r : List Nat} (h : zlf (zoka I r) (s + 1) (M - (s + 1)) = some t) : zsx I M d (s :: r) = some (zfs I M d (t :: r)) := by
  show (match zlf (zoka I r) (s + 1) (M - (s + 1)) with | some t => some (zfs I M d (t :: r)) | none => zsx I M (d + 1) r) = _
  rw [h]
theorem zoka_e {I : Nat → Bool} {M : Nat} {l : List Nat} (h : zgd M l = true) (hl : l.length < M) : ∃ t, zlf (zoka I l) 0 M = some t ∧ t < M ∧ zoka I l t = true ∧ zgd M (t :: l) = true ∧ ∀ j, j < t → zoka I l j = false := by
  have h1 := zcnt_f h
  obtain ⟨s, s1, s2, -⟩ := zct_pos (b := zvf l) M (by omega)
  cases hz : zlf (zoka I l) 0 M with
  | some t =>
    obtain ⟨-, t2, t3, t4⟩ := zlf_s M 0 hz
    exact ⟨t, rfl, by omega, t3, zgd_c.mpr ⟨by omega, zoka_f t3, h⟩, fun j hj => t4 j (by omega) hj⟩
  | none =>
    have hn := zlf_n M 0 hz
    cases hi : I s with
    | false =>
      have h2 := hn s (by omega) (by omega)
      unfold zoka at h2
      rw [s2, hi] at h2
      exact absurd h2 (by simp)
    | true =>
      obtain ⟨t, t1, t2, t3⟩ := zct_pos (b := fun j => I j && zvf l j) M (zct_has (s := s) (by simp only [hi, s2]; rfl) M s1)
      simp only [Bool.and_eq_true] at t2
      have h2 := hn t (by omega) (by omega)
      unfold zoka at h2
      rw [t2.2, t3, decide_eq_true rfl, Bool.or_true] at h2
      exact absurd h2 (by decide)
theorem zfs_g {I : Nat → Bool} {M : Nat} : ∀ (d : Nat) (l : List Nat), zgd M l = true → l.length + d ≤ M → zgd M (zfs I M d l) = true ∧ (zfs I M d l).length = l.length + d
  | 0, l, h, _ => ⟨h, rfl⟩
  | d + 1, l, h, hd => by
    obtain ⟨t, t1, t2, t3, t4, -⟩ := zoka_e (I := I) h (by omega)
    have e : zfs I M (d + 1) l = zfs I M d (t :: l) := by
      show zfs I M d ((zlf (zoka I l) 0 M).getD 0 :: l) = _
      rw [t1]
      rfl
    have ih := zfs_g (I := I) d (t :: l) t4 (by rw [List.length_cons]; omega)
    rw [List.length_cons] at ih
    rw [e]
    exact ⟨ih.1, by rw [ih.2]; omega⟩
theorem zwk0 {I : Nat → Bool} {M : Nat} : ∀ (d : Nat) (l : List Nat), zgd M l = true → l.length + d ≤ M → zal (zoka I) M d l ++ zrs I M d l = zfs I M d l :: zrs I M 0 (zfs I M d l)
  | 0, l, _, _ => rfl
  | d + 1, l, h, hd => by
    obtain ⟨t, t1, t2, t3, t4, t5⟩ := zoka_e (I := I) h (by omega)
    have e : zfs I M (d + 1) l = zfs I M d (t :: l) := by
      show zfs I M d ((zlf (zoka I l) 0 M).getD 0 :: l) = _
      rw [t1]
      rfl
    have e2 : zal (zoka I) M (d + 1) l = zal (zoka I) M d (t :: l) ++ zcc (zoka I l) (fun s => zal (zoka I) M d (s :: l)) (t + 1) (M - (t + 1)) := by
      have := zcc_s (f := fun s => zal (zoka I) M d (s :: l)) t3 M 0 (by omega) (by omega) (fun j _ hj => t5 j hj)
      rw [Nat.zero_add] at this
      exact this
    rw [e, e2, List.append_assoc, ← zwk0 d (t :: l) t4 (by rw [List.length_cons]; omega)]
    rfl
theorem zwk1 {I : Nat → Bool} {M : Nat} : ∀ (x : List Nat) (d : Nat), zgd M x = true → x.length + d ≤ M → zrs I M d x = match zsx I M d x with
    | none => []
    | some y => y :: zrs I M 0 y
  | [], _, _, _ => rfl
  | s :: r, d, h, hd => by
    obtain ⟨h1, h2, h3⟩ := zgd_c.mp h
    rw [List.length_cons] at hd
    rw [zrs_c]
    cases hz : zlf (zoka I r) (s + 1) (M - (s + 1)) with
    | none =>
      have hn := zlf_n _ _ hz
      rw [zcc_n _ _ hn, zsx_n hz]
      exact zwk1 r (d + 1) h3 (by omega)
    | some t =>
      obtain ⟨t1, t2, t3, t4⟩ := zlf_s _ _ hz
      have g : zgd M (t :: r) = true := zgd_c.mpr ⟨by omega, zoka_f t3, h3⟩
      rw [zsx_s hz, zcc_s t3 _ _ t1 t2 t4, show s + 1 + (M - (s + 1)) - (t + 1) = M - (t + 1) by omega, List.append_assoc]
      exact zwk0 d (t :: r) g (by rw [List.length_cons]; omega)
theorem zsx_g {I : Nat → Bool} {M : Nat} {y : List Nat} : ∀ (x : List Nat) (d : Nat), zgd M x = true → x.length + d ≤ M → zsx I M d x = some y → zgd M y = true ∧ y.length = x.length + d
  | [], _, _, _, h => absurd h (by simp [zsx])
  | s :: r, d, h, hd, he => by
    obtain ⟨h1, h2, h3⟩ := zgd_c.mp h
    rw [List.length_cons] at hd
    unfold zsx at he
    cases hz : zlf (zoka I r) (s + 1) (M - (s + 1)) with
    | none =>
      rw [hz] at he
      have := zsx_g r (d + 1) h3 (by omega) he
      rw [List.length_cons]
      exact ⟨this.1, by rw [this.2]; omega⟩
    | some t =>
      rw [hz] at he
      cases he
      obtain ⟨t1, t2, t3, t4⟩ := zlf_s _ _ hz
      have g : zgd M (t :: r) = true := zgd_c.mpr ⟨by omega, zoka_f t3, h3⟩
      have := zfs_g (I := I) d (t :: r) g (by rw [List.length_cons]; omega)
      rw [List.length_cons] at this ⊢
      exact this
/-- how many there are at most -/
def zpr (M : Nat) : Nat → Nat → Nat
  | 0, _ => 1
  | d + 1, m => (M - m) * zpr M d (m + 1)
theorem zct_mono {b c : Nat → Bool} : ∀ n, (∀ j, j < n → b j = true → c j = true) → zct b n ≤ zct c n
  | 0, _ => Nat.le_refl _
  | n + 1, h => by
    have ih := zct_mono n (fun j hj => h j (by omega))
    unfold zct
    by_cases hb : b n = true
    · rw [if_pos hb, if_pos (h n (by omega) hb)]; omega
    · rw [if_neg hb]; omega
theorem zcc_len {ok : Nat → Bool} {f : Nat → List (List Nat)} {B : Nat} : ∀ n s, (∀ j, s ≤ j → j < s + n → ok j = true → (f j).length ≤ B) → (zcc ok f s n).length + zct ok s * B ≤ zct ok (s + n) * B
  | 0, s, _ => by
    show 0 + _ ≤ _
    rw [Nat.zero_add]
    exact Nat.le_refl _
  | n + 1, s, h => by
    have ih := zcc_len (B := B) n (s + 1) (fun j h1 h2 => h j (by omega) (by omega))
    have e : zct ok (s + 1) = zct ok s + (if ok s = true then 1 else 0) := rfl
    rw [e, Nat.add_mul] at ih
    rw [show s + (n + 1) = s + 1 + n by omega]
    show ((if ok s = true then f s else []) ++ zcc ok f (s + 1) n).length + _ ≤ _
    rw [List.length_append]
    by_cases ho : ok s = true
    · rw [if_pos ho, Nat.one_mul] at ih
      rw [if_pos ho]
      have := h s (Nat.le_refl _) (by omega) ho
      omega
    · rw [if_neg ho, Nat.zero_mul] at ih
      rw [if_neg ho]
      show 0 + _ + _ ≤ _
      omega
theorem zal_len {I : Nat → Bool} {M : Nat} : ∀ (d : Nat) (l : List Nat), zgd M l = true → (zal (zoka I) M d l).length ≤ zpr M d l.length
  | 0, _, _ => Nat.le_refl _
  | d + 1, l, h => by
    have h1 := zcnt_f h
    have h2 : zct (zoka I l) M ≤ zct (zvf l) M := zct_mono M fun j _ hj => zoka_f hj
    have h3 := zcc_len (ok := zoka I l) (f := fun s => zal (zoka I) M d (s :: l)) (B := zpr M d (l.length + 1)) M 0 (fun j _ hj ho => by
      have := zal_len (I := I) d (j :: l) (zgd_c.mpr ⟨by omega, zoka_f ho, h⟩)
      rw [List.length_cons] at this
      exact this)
    have h4 : zct (zoka I l) M * zpr M d (l.length + 1) ≤ (M - l.length) * zpr M d (l.length + 1) := Nat.mul_le_mul_right _ (by omega)
    have h5 : zct (zoka I l) 0 * zpr M d (l.length + 1) = 0 := Nat.zero_mul _
    rw [h5, Nat.zero_add] at h3
    show (zcc _ _ 0 M).length ≤ (M - l.length) * zpr M d (l.length + 1)
    omega
theorem zpr_le : ∀ M, M < 13 → ∀ k, k < 5 → zpr M k 0 ≤ 11880 := by decide
