/-! SEATINGS counted -/
def zszl (C : List Nat → Nat) : List (List Nat) → Nat
  | [] => 0
  | x :: r => C x + zszl C r
theorem zszl_a {C : List Nat → Nat} : ∀ (a b : List (List Nat)), zszl C (a ++ b) = zszl C a + zszl C b
  | [], b => by simp [zszl]
  | x :: a, b => by
    show C x + zszl C (a ++ b) = C x + zszl C a + zszl C b
    rw [zszl_a a b, Nat.add_assoc]
def zsn (g : Nat → Nat) : Nat → Nat
  | 0 => 0
  | n + 1 => zsn g n + g n
theorem zsn_c {g f : Nat → Nat} : ∀ n : Nat, (∀ j, j < n → g j = f j) → zsn g n = zsn f n
  | 0, _ => rfl
  | n + 1, h => by
    unfold zsn
    rw [zsn_c n (fun j hj => h j (by omega)), h n (by omega)]
theorem zsn_a {g f e : Nat → Nat} : ∀ n : Nat, (∀ j, j < n → g j = f j + e j) → zsn g n = zsn f n + zsn e n
  | 0, _ => rfl
  | n + 1, h => by
    unfold zsn
    rw [zsn_a n (fun j hj => h j (by omega)), h n (by omega)]
    omega
theorem zsn_k {g : Nat → Nat} {b : Nat → Bool} {K : Nat} : ∀ n : Nat, (∀ j, j < n → g j = if b j = true then K else 0) → zsn g n = zct b n * K
  | 0, _ => (Nat.zero_mul _).symm
  | n + 1, h => by
    unfold zsn zct
    rw [zsn_k n (fun j hj => h j (by omega)), h n (by omega), Nat.add_mul]
    split
    · rw [Nat.one_mul]
    · rw [Nat.zero_mul]
theorem zszl_c {C : List Nat → Nat} {ok : Nat → Bool} {f : Nat → List (List Nat)} : ∀ n s, zszl C (zcc ok f s n) + zsn (fun j => if ok j = true then zszl C (f j) else 0) s = zsn (fun j => if ok j = true then zszl C (f j) else 0) (s + n)
  | 0, s => by
    show 0 + _ = _
    rw [Nat.zero_add, Nat.add_zero]
  | n + 1, s => by
    have ih := zszl_c (C := C) (ok := ok) (f := f) n (s + 1)
    have e : zsn (fun j => if ok j = true then zszl C (f j) else 0) (s + 1) = zsn (fun j => if ok j = true then zszl C (f j) else 0) s + (if ok s = true then zszl C (f s) else 0) := rfl
    rw [e] at ih
    rw [show s + (n + 1) = s + 1 + n by omega, ← ih]
    show zszl C ((if ok s = true then f s else []) ++ zcc ok f (s + 1) n) + _ = _
    rw [zszl_a]
    by_cases h : ok s = true
    · rw [if_pos h, if_pos h]; omega
    · rw [if_neg h, if_neg h]
      show 0 + _ + _ = _
      omega
theorem zszl_z {C : List Nat → Nat} {ok : List Nat → Nat → Bool} {M d : Nat} {l : List Nat} : zszl C (zal ok M (d + 1) l) = zsn (fun j => if ok l j = true then zszl C (zal ok M d (j :: l)) else 0) M := by
  have := zszl_c (C := C) (ok := ok l) (f := fun s => zal ok M d (s :: l)) M 0
  rw [Nat.zero_add] at this
  exact this
/-- alike ones count alike -/
theorem zszl_q {I : Nat → Bool} {M K : Nat} {C : List Nat → Nat} (hC : ∀ x y, zgd M x = true → zgd M y = true → x.length = K → zqv I x y → C x = C y) : ∀ (d : Nat) {l1 l2 : List Nat}, zgd M l1 = true → zgd M l2 = true → l1.length + d = K → zqv I l1 l2 → zszl C (zal zvf M d l1) = zszl C (zal zvf M d l2)
  | 0, l1, l2, g1, g2, hK, hq => by
    show C l1 + 0 = C l2 + 0
    rw [hC l1 l2 g1 g2 hK hq]
  | d + 1, l1, l2, h1, h2, hK, hq => by
    have hl := zqv_l hq
    rw [zszl_z, zszl_z]
    have c1 := zcnt (I := I) h1
    have c2 := zcnt (I := I) h2
    rw [zei_q hq] at c1
    have hcc : zct (fun j => I j && zvf l1 j) M = zct (fun j => I j && zvf l2 j) M := by omega
    -- idle ones
    obtain ⟨K, hK1, hK2⟩ : ∃ K, (∀ j, j < M → I j = true → zvf l1 j = true → zszl C (zal zvf M d (j :: l1)) = K) ∧ (∀ j, j < M → I j = true → zvf l2 j = true → zszl C (zal zvf M d (j :: l2)) = K) := by
      by_cases h0 : zct (fun j => I j && zvf l2 j) M = 0
      · refine ⟨0, fun j hj hi hf => ?_, fun j hj hi hf => ?_⟩
        · have := zct_has (b := fun j => I j && zvf l1 j) (s := j) (by simp only [hi, hf]; rfl) M hj
          omega
        · have := zct_has (b := fun j => I j && zvf l2 j) (s := j) (by simp only [hi, hf]; rfl) M hj
          omega
      · obtain ⟨t, t1, t2, -⟩ := zct_pos (b := fun j => I j && zvf l2 j) M (by omega)
        simp only [Bool.and_eq_true] at t2
        have gt : zgd M (t :: l2) = true := zgd_c.mpr ⟨t1, t2.2, h2⟩
        refine ⟨zszl C (zal zvf M d (t :: l2)), fun j hj hi hf => ?_, fun j hj hi hf => ?_⟩
        · exact zszl_q hC d (zgd_c.mpr ⟨hj, hf, h1⟩) gt (by rw [List.length_cons]; omega) ⟨Or.inr ⟨hi, t2.1⟩, hq⟩
        · exact zszl_q hC d (zgd_c.mpr ⟨hj, hf, h2⟩) gt (by rw [List.length_cons]; omega) ⟨Or.inr ⟨hi, t2.1⟩, zqv_r I l2⟩
    rw [zsn_a (f := fun j => if I j = true then 0 else if zvf l1 j = true then zszl C (zal zvf M d (j :: l1)) else 0) (e := fun j => if (I j && zvf l1 j) = true then K else 0) M (fun j hj => ?_),
      zsn_a (g := fun j => if zvf l2 j = true then zszl C (zal zvf M d (j :: l2)) else 0) (f := fun j => if I j = true then 0 else if zvf l2 j = true then zszl C (zal zvf M d (j :: l2)) else 0) (e := fun j => if (I j && zvf l2 j) = true then K else 0) M (fun j hj => ?_),
      zsn_k (b := fun j => I j && zvf l1 j) (K := K) M (fun j _ => rfl), zsn_k (b := fun j => I j && zvf l2 j) (K := K) M (fun j _ => rfl), hcc]
    · congr 1
      refine zsn_c M fun j hj => ?_
      cases hi : I j with
      | true => rfl
      | false =>
        simp only [Bool.false_eq_true, if_false]
        rw [zvf_q hi hq]
        by_cases hf : zvf l2 j = true
        · rw [if_pos hf, if_pos hf]
          exact zszl_q hC d (zgd_c.mpr ⟨hj, by rw [zvf_q hi hq]; exact hf, h1⟩) (zgd_c.mpr ⟨hj, hf, h2⟩) (by rw [List.length_cons]; omega) ⟨Or.inl rfl, hq⟩
        · rw [if_neg hf, if_neg hf]
    · cases hi : I j with
      | true =>
        by_cases hf : zvf l2 j = true
        · rw [hf, hK2 j hj hi hf]; simp
        · simp [hf]
      | false => simp
    · cases hi : I j with
      | true =>
        by_cases hf : zvf l1 j = true
        · rw [hf, hK1 j hj hi hf]; simp
        · simp [hf]
      | false => simp
theorem zar (a w K c : Nat) : a + w * K + w * (c * K) = a + w * ((c + 1) * K) := by
  rw [Nat.add_mul, Nat.one_mul, Nat.mul_add]
  omega
/-- how many a SEATING stands for; T idle SEATS -/
def zwt (I : Nat → Bool) (T : Nat) : List Nat → Nat
  | [] => 1
  | s :: r => zwt I T r * (if I s = true then T - zei I r else 1)
theorem zfit_l {I : Nat → Bool} {M K : Nat} {C : List Nat → Nat} (hC : ∀ x y, zgd M x = true → zgd M y = true → x.length = K → zqv I x y → C x = C y) : ∀ (d : Nat) (l : List Nat), zgd M l = true → l.length + d = K → zwt I (zct I M) l * zszl C (zal zvf M d l) = zszl (fun x => C x * zwt I (zct I M) x) (zal (zoka I) M d l)
  | 0, l, _, _ => by
    show zwt I (zct I M) l * (C l + 0) = C l * zwt I (zct I M) l + 0
    rw [Nat.add_zero, Nat.add_zero, Nat.mul_comm]
  | d + 1, l, hl, hK => by
    rw [zszl_z, zszl_z]
    have c1 := zcnt (I := I) hl
    obtain ⟨K, hK⟩ : ∃ K, ∀ j, j < M → I j = true → zvf l j = true → zszl C (zal zvf M d (j :: l)) = K := by
      by_cases h0 : zct (fun j => I j && zvf l j) M = 0
      · refine ⟨0, fun j hj hi hf => ?_⟩
        have := zct_has (b := fun j => I j && zvf l j) (s := j) (by simp only [hi, hf]; rfl) M hj
        omega
      · obtain ⟨t, t1, t2, -⟩ := zct_pos (b := fun j => I j && zvf l j) M (by omega)
        simp only [Bool.and_eq_true] at t2
        exact ⟨zszl C (zal zvf M d (t :: l)), fun j hj hi hf => zszl_q hC d (zgd_c.mpr ⟨hj, hf, hl⟩) (zgd_c.mpr ⟨t1, t2.2, hl⟩) (by rw [List.length_cons]; omega) ⟨Or.inr ⟨hi, t2.1⟩, zqv_r I l⟩⟩
    have go : ∀ n, n ≤ M → zwt I (zct I M) l * zsn (fun j => if zvf l j = true then zszl C (zal zvf M d (j :: l)) else 0) n + zwt I (zct I M) l * ((if zct (fun j => I j && zvf l j) n = 0 then 0 else zct (fun j => I j && zvf l j) M - zct (fun j => I j && zvf l j) n) * K) = zsn (fun j => if zoka I l j = true then zszl (fun x => C x * zwt I (zct I M) x) (zal (zoka I) M d (j :: l)) else 0) n := by
      intro n
      induction n with
      | zero => intro _; rw [if_pos (show zct (fun j => I j && zvf l j) 0 = 0 from rfl), Nat.zero_mul, Nat.mul_zero]; rfl
      | succ n ih =>
        intro hn
        have ih := ih (by omega)
        have e1 : zsn (fun j => if zvf l j = true then zszl C (zal zvf M d (j :: l)) else 0) (n + 1) = zsn (fun j => if zvf l j = true then zszl C (zal zvf M d (j :: l)) else 0) n + (if zvf l n = true then zszl C (zal zvf M d (n :: l)) else 0) := rfl
        have e2 : zsn (fun j => if zoka I l j = true then zszl (fun x => C x * zwt I (zct I M) x) (zal (zoka I) M d (j :: l)) else 0) (n + 1) = zsn (fun j => if zoka I l j = true then zszl (fun x => C x * zwt I (zct I M) x) (zal (zoka I) M d (j :: l)) else 0) n + (if zoka I l n = true then zszl (fun x => C x * zwt I (zct I M) x) (zal (zoka I) M d (n :: l)) else 0) := rfl
        have e3 : zct (fun j => I j && zvf l j) (n + 1) = zct (fun j => I j && zvf l j) n + (if (I n && zvf l n) = true then 1 else 0) := rfl
        rw [e1, e2, e3, ← ih, Nat.mul_add]
        cases hf : zvf l n with
        | false =>
          have ho : ¬ zoka I l n = true := fun z => by rw [zoka_f z] at hf; exact absurd hf (by decide)
          rw [if_neg ho]
          simp
        | true =>
          have g : zgd M (n :: l) = true := zgd_c.mpr ⟨by omega, hf, hl⟩
          cases hi : I n with
          | false =>
            have ho : zoka I l n = true := by unfold zoka; rw [hf, hi]; rfl
            rw [if_pos ho, ← zfit_l hC d (n :: l) g (by rw [List.length_cons]; omega)]
            have ew : zwt I (zct I M) (n :: l) = zwt I (zct I M) l := by
              show zwt I (zct I M) l * (if I n = true then _ else 1) = _
              rw [hi]
              simp
            rw [ew]
            simp
            omega
          | true =>
            have hk := hK n (by omega) hi hf
            have hle : zct (fun j => I j && zvf l j) n + 1 ≤ zct (fun j => I j && zvf l j) M := by
              have h1 := zct_has (b := fun j => decide (n ≤ j) && (I j && zvf l j)) (s := n) (by simp [hi, hf]) M (by omega)
              have h2 : zct (fun j => I j && zvf l j) M = zct (fun j => I j && zvf l j) n + zct (fun j => decide (n ≤ j) && (I j && zvf l j)) M := by
                have gen : ∀ m, zct (fun j => I j && zvf l j) (n + m) = zct (fun j => I j && zvf l j) n + zct (fun j => decide (n ≤ j) && (I j && zvf l j)) (n + m) := by
                  intro m
                  induction m with
                  | zero =>
                    have z : zct (fun j => decide (n ≤ j) && (I j && zvf l j)) (0 + n) = zct (fun j => decide (n ≤ j) && (I j && zvf l j)) 0 := zct_tail n (fun j _ h2 => by simp [show ¬ n ≤ j by omega])
                    rw [Nat.zero_add] at z
                    show _ = _ + zct _ n
                    rw [z]
                    rfl
                  | succ m ihm =>
                    show zct (fun j => I j && zvf l j) (n + m) + (if (I (n + m) && zvf l (n + m)) = true then 1 else 0) = zct (fun j => I j && zvf l j) n + (zct (fun j => decide (n ≤ j) && (I j && zvf l j)) (n + m) + (if (decide (n ≤ n + m) && (I (n + m) && zvf l (n + m))) = true then 1 else 0))
                    rw [decide_eq_true (show n ≤ n + m by omega), Bool.true_and, ihm, Nat.add_assoc]
                have := gen (M - n)
                rw [show n + (M - n) = M by omega] at this
                exact this
              omega
            simp only [Bool.and_self, if_true]
            rw [hk, if_neg (show ¬ zct (fun j => I j && zvf l j) n + 1 = 0 by omega)]
            by_cases h0 : zct (fun j => I j && zvf l j) n = 0
            · have ho : zoka I l n = true := by unfold zoka; rw [hf, h0, decide_eq_true rfl, Bool.or_true]; rfl
              have ew : zwt I (zct I M) (n :: l) = zwt I (zct I M) l * zct (fun j => I j && zvf l j) M := by
                show zwt I (zct I M) l * (if I n = true then _ else 1) = _
                rw [hi, if_pos rfl, ← c1, Nat.add_sub_cancel]
              rw [if_pos ho, ← zfit_l hC d (n :: l) g (by rw [List.length_cons]; omega), hk, ew, h0, if_pos rfl, Nat.zero_mul, Nat.mul_zero, Nat.add_zero]
              obtain ⟨c, hc⟩ : ∃ c, zct (fun j => I j && zvf l j) M = c + 1 := ⟨zct (fun j => I j && zvf l j) M - 1, by omega⟩
              rw [hc, Nat.mul_assoc]
              simp only [Nat.zero_add, Nat.add_sub_cancel, Nat.add_zero]
              exact zar _ _ _ _
            · have ho : ¬ zoka I l n = true := by unfold zoka; rw [hf, hi, decide_eq_false h0]; decide
              rw [if_neg ho, if_neg h0]
              obtain ⟨c, hc⟩ : ∃ c, zct (fun j => I j && zvf l j) M = zct (fun j => I j && zvf l j) n + 1 + c := ⟨zct (fun j => I j && zvf l j) M - (zct (fun j => I j && zvf l j) n + 1), by omega⟩
              rw [hc, show zct (fun j => I j && zvf l j) n + 1 + c - (zct (fun j => I j && zvf l j) n + 1) = c by omega, show zct (fun j => I j && zvf l j) n + 1 + c - zct (fun j => I j && zvf l j) n = c + 1 by omega]
              exact zar _ _ _ _
    have := go M (Nat.le_refl M)
    rw [← this]
    by_cases h0 : zct (fun j => I j && zvf l j) M = 0
    · rw [if_pos h0, Nat.zero_mul, Nat.mul_zero, Nat.add_zero]
    · rw [if_neg h0, Nat.sub_self, Nat.zero_mul, Nat.mul_zero, Nat.add_zero]
/-- where the j-th mover is -/
def zgt : List Nat → Nat → Nat
  | [], _ => 0
  | s :: r, j => if j = r.length then s else zgt r j
theorem zgt_q {I : Nat → Bool} {j : Nat} : ∀ {x y : List Nat}, zqv I x y → zgt x j = zgt y j ∨ (I (zgt x j) = true ∧ I (zgt y j) = true)
  | [], [], _ => Or.inl rfl
  | a :: x, b :: y, h => by
    unfold zgt
    rw [← zqv_l h.2]
    by_cases e : j = x.length
    · rw [if_pos e, if_pos e]; exact h.1
    · rw [if_neg e, if_neg e]; exact zgt_q h.2
  | [], _ :: _, h => h.elim
  | _ :: _, [], h => h.elim
theorem zgt_lt {M : Nat} : ∀ {x : List Nat} {j : Nat}, zgd M x = true → j < x.length → zgt x j < M
  | [], _, _, h => absurd h (by simp)
  | a :: x, j, g, h => by
    obtain ⟨g1, g2, g3⟩ := zgd_c.mp g
    unfold zgt
    by_cases e : j = x.length
    · rw [if_pos e]; exact g1
    · rw [if_neg e]; exact zgt_lt g3 (by rw [List.length_cons] at h; omega)
/-- two SEATS change places -/
def zxc (a b s : Nat) : Nat := if s = a then b else if s = b then a else s
theorem zxc_i (a b : Nat) {s t : Nat} : zxc a b s = zxc a b t ↔ s = t := by
  unfold zxc
  constructor
  · intro h; repeat' split at h
    all_goals omega
  · intro h; rw [h]
theorem zvf_x (a b s : Nat) : ∀ l : List Nat, zvf (l.map (zxc a b)) (zxc a b s) = zvf l s
  | [] => rfl
  | t :: l => by
    rw [List.map_cons, zvf_c, zvf_c, zvf_x a b s l]
    congr 2
    exact decide_eq_decide.mpr (zxc_i a b)
theorem zgd_x {a b M : Nat} (ha : a < M) (hb : b < M) : ∀ {l : List Nat}, zgd M l = true → zgd M (l.map (zxc a b)) = true
  | [], _ => rfl
  | s :: r, h => by
    obtain ⟨h1, h2, h3⟩ := zgd_c.mp h
    rw [List.map_cons]
    refine zgd_c.mpr ⟨?_, ?_, zgd_x ha hb h3⟩
    · unfold zxc; repeat' split
      all_goals omega
    · rw [zvf_x]; exact h2
theorem zqv_x {I : Nat → Bool} {a b : Nat} (ha : I a = true) (hb : I b = true) : ∀ l : List Nat, zqv I l (l.map (zxc a b))
  | [] => trivial
  | s :: r => by
    refine ⟨?_, zqv_x ha hb r⟩
    unfold zxc
    by_cases e : s = a
    · rw [if_pos e, e]; exact Or.inr ⟨ha, hb⟩
    · rw [if_neg e]
      by_cases e2 : s = b
      · rw [if_pos e2, e2]; exact Or.inr ⟨hb, ha⟩
      · rw [if_neg e2]; exact Or.inl rfl
theorem zgt_x (a b : Nat) {j : Nat} : ∀ {l : List Nat}, j < l.length → zgt (l.map (zxc a b)) j = zxc a b (zgt l j)
  | [], h => absurd h (by simp)
  | s :: r, h => by
    rw [List.map_cons]
    unfold zgt
    rw [List.length_map]
    by_cases e : j = r.length
    · rw [if_pos e, if_pos e]
    · rw [if_neg e, if_neg e]; exact zgt_x a b (by rw [List.length_cons] at h; omega)
/-- which SEATS a ONE has by those that C tells -/
theorem zbits {I : Nat → Bool} {M k j s : Nat} {C : List Nat → Nat} (hC : ∀ x y, zgd M x = true → zgd M y = true → x.length = k → zqv I x y → C x = C y) (hj : j < k) (hs : s < M) : (∃ x, x ∈ zal zvf M k [] ∧ C x ≠ 0 ∧ zgt x j = s) ↔ ∃ x, x ∈ zal (zoka I) M k [] ∧ C x ≠ 0 ∧ (if I (zgt x j) = true then I s = true else zgt x j = s) := by
  constructor
  · rintro ⟨x, h1, h2, h3⟩
    obtain ⟨y, y1, y2⟩ := zal_tw k (I := I) (M := M) (l1 := []) (l2 := []) rfl rfl trivial h1
    obtain ⟨w, w1, w2, w3⟩ := (zal_e k [] rfl).mp h1
    have gy := zal_g (I := I) (M := M) (l := []) rfl y1
    refine ⟨y, y1, by rw [← hC x y w3 gy.1 (by rw [w1, List.append_nil, w2]) y2]; exact h2, ?_⟩
    rcases zgt_q (j := j) y2 with e | ⟨e1, e2⟩
    · rw [← e]
      by_cases hi : I (zgt x j) = true
      · rw [if_pos hi, ← h3]; exact hi
      · rw [if_neg hi]; exact h3
    · rw [if_pos e2, ← h3]; exact e1
  · rintro ⟨x, h1, h2, h3⟩
    have hm := zal_sub k [] h1
    obtain ⟨g1, g2⟩ := zal_g (I := I) (M := M) (l := []) rfl h1
    have hjl : j < x.length := by rw [g2]; simp; exact hj
    by_cases hi : I (zgt x j) = true
    · rw [if_pos hi] at h3
      refine ⟨x.map (zxc (zgt x j) s), (zal_e k [] rfl).mpr ⟨x.map (zxc (zgt x j) s), (List.append_nil _).symm, ?_, zgd_x (zgt_lt g1 hjl) hs g1⟩, ?_, ?_⟩
      · rw [List.length_map, g2]; simp
      · rw [← hC x _ g1 (zgd_x (zgt_lt g1 hjl) hs g1) (by rw [g2]; simp) (zqv_x hi h3 x)]; exact h2
      · rw [zgt_x _ _ hjl]
        unfold zxc
        rw [if_pos rfl]
    · rw [if_neg hi] at h3
      exact ⟨x, hm, h2, h3⟩
