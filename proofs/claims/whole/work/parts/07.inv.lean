/-! WHAT BOTH PROGRAMS HOLD: plain facts -/
theorem zbI_some {x : Int32} {σ : ZS} {k : Int32 → ZS → ZR} : zbI (some (zI x, σ)) k = k x σ := rfl
theorem zbJ_some {x : Int64} {σ : ZS} {k : Int64 → ZS → ZR} : zbJ (some (zJ x, σ)) k = k x σ := rfl
theorem zbV_some {v : ZV} {σ : ZS} {k : ZS → ZR} : zbV (some (v, σ)) k = k σ := rfl
theorem zck_nI {k n : Nat} (h : k < n) (hn : n < 2 ^ 31) (r : ZR) : zck (nI k) n r = r := if_neg (nI_in h hn)
theorem zbb_0 (r : ZR) : zbb 0 r = r := rfl
theorem zbb_1 (r : ZR) : zbb 1 r = r := rfl
/-- a truth value as the machine has it -/
def zb (b : Bool) : Int32 := match b with
  | true => 1
  | false => 0
theorem zb_0 (b : Bool) : zb b = 0 ↔ b = false := by cases b <;> decide
theorem zbb_b (b : Bool) (r : ZR) : zbb (zb b) r = r := by cases b <;> rfl
theorem zif_b {α : Type} (b : Bool) (x y : α) : (if zb b = 0 then x else y) = if b = true then y else x := by cases b <;> rfl
/-- is it in bounds -/
def zin2 (v lo hi : Int32) : Bool := decide (lo ≤ v) && decide (v ≤ hi)
theorem L_isIn (σ : ZS) (v lo hi : Int32) : zcall 61 [zI v, zI lo, zI hi] σ = some (zI (zb (zin2 v lo hi)), σ) := by
  rw [E_S_isIn]
  unfold zin2
  by_cases h1 : v < lo
  · rw [if_pos h1]
    have h2 : ¬ lo ≤ v := fun z => absurd h1 (Int32.not_lt.mpr z)
    simp [h2, zb]
  · rw [if_neg h1]
    have h2 : lo ≤ v := Int32.not_lt.mp h1
    by_cases h3 : hi < v
    · rw [if_pos h3]
      have h4 : ¬ v ≤ hi := fun z => absurd h3 (Int32.not_lt.mpr z)
      simp [h4, zb]
    · rw [if_neg h3]
      have h4 : v ≤ hi := Int32.not_lt.mp h3
      simp [h2, h4, zb]
theorem zcmp_lt (a b : Int32) : lg_cmp a.toInt64 b.toInt64 < 0 ↔ a < b := by
  rw [lg_cmp_lt, Int64.lt_iff_toInt_lt, Int32.lt_iff_toInt_lt, Int32.toInt_toInt64, Int32.toInt_toInt64]
theorem zcmp_gt (a b : Int32) : 0 < lg_cmp a.toInt64 b.toInt64 ↔ b < a := by
  rw [lg_cmp_gt, Int64.lt_iff_toInt_lt, Int32.lt_iff_toInt_lt, Int32.toInt_toInt64, Int32.toInt_toInt64]
theorem L_in (σ : ZS) (v : Int32) {a b : Int64} (lo hi : Int32) (ha : a = lo.toInt64) (hb : b = hi.toInt64) : zcall 120 [zJ v.toInt64, zJ a, zJ b] σ = some (zI (zb (zin2 v lo hi)), σ) := by
  subst ha hb
  rw [E_M_in]
  unfold zin2
  simp only [zcmp_lt, zcmp_gt]
  by_cases h1 : v < lo
  · rw [if_pos h1]
    have h2 : ¬ lo ≤ v := fun z => absurd h1 (Int32.not_lt.mpr z)
    simp [h2, zb]
  · rw [if_neg h1]
    have h2 : lo ≤ v := Int32.not_lt.mp h1
    by_cases h3 : hi < v
    · rw [if_pos h3]
      have h4 : ¬ v ≤ hi := fun z => absurd h3 (Int32.not_lt.mpr z)
      simp [h4, zb]
    · rw [if_neg h3]
      have h4 : v ≤ hi := Int32.not_lt.mp h3
      simp [h2, h4, zb]
theorem L_in0_1 (σ : ZS) (v : Int32) : zcall 120 [zJ v.toInt64, zJ 0, zJ 1] σ = some (zI (zb (zin2 v (nI 0) (nI 1))), σ) := L_in σ v _ _ rfl rfl
theorem L_in0_2 (σ : ZS) (v : Int32) : zcall 120 [zJ v.toInt64, zJ 0, zJ 2] σ = some (zI (zb (zin2 v (nI 0) (nI 2))), σ) := L_in σ v _ _ rfl rfl
theorem L_in0_3 (σ : ZS) (v : Int32) : zcall 120 [zJ v.toInt64, zJ 0, zJ 3] σ = some (zI (zb (zin2 v (nI 0) (nI 3))), σ) := L_in σ v _ _ rfl rfl
theorem L_in0_5 (σ : ZS) (v : Int32) : zcall 120 [zJ v.toInt64, zJ 0, zJ 5] σ = some (zI (zb (zin2 v (nI 0) (nI 5))), σ) := L_in σ v _ _ rfl rfl
theorem L_in0_9 (σ : ZS) (v : Int32) : zcall 120 [zJ v.toInt64, zJ 0, zJ 9] σ = some (zI (zb (zin2 v (nI 0) (nI 9))), σ) := L_in σ v _ _ rfl rfl
theorem L_in0_10 (σ : ZS) (v : Int32) : zcall 120 [zJ v.toInt64, zJ 0, zJ 10] σ = some (zI (zb (zin2 v (nI 0) (nI 10))), σ) := L_in σ v _ _ rfl rfl
theorem L_in0_11 (σ : ZS) (v : Int32) : zcall 120 [zJ v.toInt64, zJ 0, zJ 11] σ = some (zI (zb (zin2 v (nI 0) (nI 11))), σ) := L_in σ v _ _ rfl rfl
theorem L_in0_20 (σ : ZS) (v : Int32) : zcall 120 [zJ v.toInt64, zJ 0, zJ 20] σ = some (zI (zb (zin2 v (nI 0) (nI 20))), σ) := L_in σ v _ _ rfl rfl
theorem L_in0_127 (σ : ZS) (v : Int32) : zcall 120 [zJ v.toInt64, zJ 0, zJ 127] σ = some (zI (zb (zin2 v (nI 0) (nI 127))), σ) := L_in σ v _ _ rfl rfl
theorem L_in1_60 (σ : ZS) (v : Int32) : zcall 120 [zJ v.toInt64, zJ 1, zJ 60] σ = some (zI (zb (zin2 v (nI 1) (nI 60))), σ) := L_in σ v _ _ rfl rfl
theorem L_in97_122 (σ : ZS) (v : Int32) : zcall 120 [zJ v.toInt64, zJ 97, zJ 122] σ = some (zI (zb (zin2 v (nI 97) (nI 122))), σ) := L_in σ v _ _ rfl rfl
theorem L_in48_57 (σ : ZS) (v : Int32) : zcall 120 [zJ v.toInt64, zJ 48, zJ 57] σ = some (zI (zb (zin2 v (nI 48) (nI 57))), σ) := L_in σ v _ _ rfl rfl
theorem L_is0_1 (σ : ZS) (v : Int32) : zcall 61 [zI v, zI 0, zI 1] σ = some (zI (zb (zin2 v (nI 0) (nI 1))), σ) := L_isIn σ v _ _
theorem L_is0_2 (σ : ZS) (v : Int32) : zcall 61 [zI v, zI 0, zI 2] σ = some (zI (zb (zin2 v (nI 0) (nI 2))), σ) := L_isIn σ v _ _
theorem L_is0_3 (σ : ZS) (v : Int32) : zcall 61 [zI v, zI 0, zI 3] σ = some (zI (zb (zin2 v (nI 0) (nI 3))), σ) := L_isIn σ v _ _
theorem L_is0_5 (σ : ZS) (v : Int32) : zcall 61 [zI v, zI 0, zI 5] σ = some (zI (zb (zin2 v (nI 0) (nI 5))), σ) := L_isIn σ v _ _
theorem L_is0_9 (σ : ZS) (v : Int32) : zcall 61 [zI v, zI 0, zI 9] σ = some (zI (zb (zin2 v (nI 0) (nI 9))), σ) := L_isIn σ v _ _
theorem L_is0_10 (σ : ZS) (v : Int32) : zcall 61 [zI v, zI 0, zI 10] σ = some (zI (zb (zin2 v (nI 0) (nI 10))), σ) := L_isIn σ v _ _
theorem L_is0_11 (σ : ZS) (v : Int32) : zcall 61 [zI v, zI 0, zI 11] σ = some (zI (zb (zin2 v (nI 0) (nI 11))), σ) := L_isIn σ v _ _
theorem L_is0_20 (σ : ZS) (v : Int32) : zcall 61 [zI v, zI 0, zI 20] σ = some (zI (zb (zin2 v (nI 0) (nI 20))), σ) := L_isIn σ v _ _
theorem L_is0_127 (σ : ZS) (v : Int32) : zcall 61 [zI v, zI 0, zI 127] σ = some (zI (zb (zin2 v (nI 0) (nI 127))), σ) := L_isIn σ v _ _
theorem L_is1_60 (σ : ZS) (v : Int32) : zcall 61 [zI v, zI 1, zI 60] σ = some (zI (zb (zin2 v (nI 1) (nI 60))), σ) := L_isIn σ v _ _
theorem L_is97_122 (σ : ZS) (v : Int32) : zcall 61 [zI v, zI 97, zI 122] σ = some (zI (zb (zin2 v (nI 97) (nI 122))), σ) := L_isIn σ v _ _
theorem L_is48_57 (σ : ZS) (v : Int32) : zcall 61 [zI v, zI 48, zI 57] σ = some (zI (zb (zin2 v (nI 48) (nI 57))), σ) := L_isIn σ v _ _
theorem L_is0 (σ : ZS) (v hi : Int32) : zcall 61 [zI v, zI 0, zI hi] σ = some (zI (zb (zin2 v (nI 0) hi)), σ) := L_isIn σ v _ _
theorem L_in0 (σ : ZS) (v hi : Int32) : zcall 120 [zJ v.toInt64, zJ 0, zJ hi.toInt64] σ = some (zI (zb (zin2 v (nI 0) hi)), σ) := L_in σ v _ _ rfl rfl
/-- an index below n, or none -/
theorem zin2_c (x : Int32) {n : Nat} (hn : n < 2 ^ 31) : zin2 x (nI 0) (nI n - 1) = false ∨ ∃ k, k < n ∧ x = nI k ∧ zin2 x (nI 0) (nI n - 1) = true := by
  show (decide ((0 : Int32) ≤ x) && _) = false ∨ ∃ k, _ ∧ _ ∧ (decide ((0 : Int32) ≤ x) && _) = true
  by_cases h1 : (0 : Int32) ≤ x
  · obtain ⟨j, hj, rfl⟩ := nI_of (Int32.not_lt.mpr h1)
    cases n with
    | zero =>
      left
      have h2 : ¬ nI j ≤ nI 0 - 1 := by
        rw [show nI 0 - 1 = (-1 : Int32) from by decide, Int32.le_iff_toInt_le, nI_toInt hj]
        show ¬ (j : Int) ≤ -1
        omega
      simp [h2]
    | succ n =>
      rw [nI_pred]
      by_cases h2 : j ≤ n
      · right
        refine ⟨j, by omega, rfl, ?_⟩
        have h3 : nI j ≤ nI n := nI_le h2 (by omega)
        simp [h1, h3]
      · left
        have h3 : ¬ nI j ≤ nI n := nI_ge (by omega) hj
        simp [h3]
  · left
    simp [h1]
theorem zin2_t {k n : Nat} (h : k < n) (hn : n < 2 ^ 31) : zin2 (nI k) (nI 0) (nI n - 1) = true := by
  show (decide ((0 : Int32) ≤ nI k) && decide (nI k ≤ nI n - 1)) = true
  obtain ⟨m, rfl⟩ : ∃ m, n = m + 1 := ⟨n - 1, by omega⟩
  rw [nI_pred]
  have h1 : (0 : Int32) ≤ nI k := nI_pos' (by omega)
  have h3 : nI k ≤ nI m := nI_le (by omega) (by omega)
  simp [h1, h3]
/-- a number up to m, or none -/
theorem zin2_u (x : Int32) (m : Nat) (hm : m < 2 ^ 31 := by decide) : zin2 x (nI 0) (nI m) = false ∨ ∃ k, k ≤ m ∧ x = nI k ∧ zin2 x (nI 0) (nI m) = true := by
  show (decide ((0 : Int32) ≤ x) && _) = false ∨ ∃ k, _ ∧ _ ∧ (decide ((0 : Int32) ≤ x) && _) = true
  by_cases h1 : (0 : Int32) ≤ x
  · obtain ⟨j, hj, rfl⟩ := nI_of (Int32.not_lt.mpr h1)
    by_cases h2 : j ≤ m
    · right
      have h3 : nI j ≤ nI m := nI_le h2 hm
      exact ⟨j, h2, rfl, by simp [h1, h3]⟩
    · left
      have h3 : ¬ nI j ≤ nI m := nI_ge (by omega) hj
      simp [h3]
  · left
    simp [h1]
theorem L_oneIf (σ : ZS) (b : Bool) : zcall 69 [zI (zb b)] σ = some (zI (zb b), σ) := by
  rw [E_S_oneIf]
  cases b <;> rfl
theorem L_flag (σ : ZS) (b : Bool) : zcall 136 [zI (zb b)] σ = some (zI (zb b), σ) := by
  rw [E_M_flag]
  cases b <;> rfl
theorem L_hasSeat (σ : ZS) (g : Nat) (x : Int32) : zcall 8 [zA 1 g 0, zI x] σ = some (zI (zb (zin2 x (nI 0) (σ 1 g 0 0 * σ 1 g 0 1 - 1))), σ) := by
  rw [E_House_hasSeat, E_House_seats, zbI_some, L_isIn, zbI_some, zbb_b]
  rfl
theorem L_hasOne (σ : ZS) (g : Nat) (x : Int32) : zcall 9 [zA 1 g 0, zI x] σ = some (zI (zb (zin2 x (nI 0) (σ 1 g 0 3 - 1))), σ) := by
  rw [E_House_hasOne, L_isIn, zbI_some, zbb_b]
  rfl
theorem L_hasLine (σ : ZS) (g : Nat) (x : Int32) : zcall 10 [zA 1 g 0, zI x] σ = some (zI (zb (zin2 x (nI 0) (σ 1 g 0 4 - 1))), σ) := by
  rw [E_House_hasLine, L_isIn, zbI_some, zbb_b]
  rfl
theorem L_isSeat (σ : ZS) (x : Int32) : zcall 140 [zA 3 0 0, zI x] σ = some (zI (zb (zin2 x (nI 0) (σ 3 0 0 3 * σ 3 0 0 4 - 1))), σ) := by
  rw [E_M_isSeat, E_M_seats, zbI_some, L_in σ x (a := 0) 0 _ rfl rfl, zbI_some, zbb_b]
  rfl
theorem L_isOne (σ : ZS) (x : Int32) : zcall 144 [zA 3 0 0, zI x] σ = some (zI (zb (zin2 x (nI 0) (σ 3 0 0 5 - 1))), σ) := by
  rw [E_M_isOne, L_in σ x (a := 0) 0 _ rfl rfl, zbI_some, zbb_b]
  rfl
theorem L_isLine (σ : ZS) (x : Int32) : zcall 146 [zA 3 0 0, zI x] σ = some (zI (zb (zin2 x (nI 0) (σ 3 0 0 6 - 1))), σ) := by
  rw [E_M_isLine, L_in σ x (a := 0) 0 _ rfl rfl, zbI_some, zbb_b]
  rfl
theorem L_becomes (σ : ZS) {k : Nat} (h : k < 162) (v : Int32) : zcall 148 [zA 3 0 0, zI (nI k), zI v] σ = some (zI (σ 3 0 1 k), zup σ 3 0 1 k v) := by
  rw [E_M_becomes, zck_nI h (by decide), zck_nI h (by decide), nI_clamp (by omega)]
/-! ===== the invariant ===== -/
def zfrm (X : Nat → Nat → Nat → Prop) (σ τ : ZS) : Prop := ∀ c g j, ¬ X c g j → τ c g j = σ c g j
theorem zfrm_r {X : Nat → Nat → Nat → Prop} {σ : ZS} : zfrm X σ σ := fun _ _ _ _ => rfl
theorem zfrm_t {X : Nat → Nat → Nat → Prop} {σ τ υ : ZS} (h1 : zfrm X σ τ) (h2 : zfrm X τ υ) : zfrm X σ υ := fun c g j h => (h2 c g j h).trans (h1 c g j h)
theorem zfrm_up {X : Nat → Nat → Nat → Prop} {σ τ : ZS} {c g j i : Nat} {v : Int32} (h : zfrm X σ τ) (hx : X c g j) : zfrm X σ (zup τ c g j i v) := by
  intro c' g' j' hn
  rw [← h c' g' j' hn]
  exact zup_ne (n := (c, g, j)) (m := (c', g', j')) (fun e => hn (by cases e; exact hx))
theorem zup_same {σ : ZS} {c g j i : Nat} {v : Int32} : zup σ c g j i v c g j i = v := by simp [zup]
theorem zup_row {σ : ZS} {c g j i : Nat} {v : Int32} : zup σ c g j i v c g j = fun k => if k = i then v else σ c g j k := by
  funext k
  simp [zup]
theorem zup_o {σ : ZS} {c g j i c' g' j' : Nat} {v : Int32} (h : ¬ (c' = c ∧ g' = g ∧ j' = j)) : zup σ c g j i v c' g' j' = σ c' g' j' := zup_ne (n := (c, g, j)) (m := (c', g', j')) (fun e => h (by cases e; exact ⟨rfl, rfl, rfl⟩))
/-- the bit at place k -/
def zbit (x : Int32) (k : Nat) : Int32 := (x >>> (nI k &&& 31)) &&& 1
/-- a house that is in order: ROWS, PLACES, PEOPLE, LINES, how many SEEN -/
def zWF (h : Nat → Nat → Int32) (R P N L S : Nat) : Prop :=
  (h 0 0 = nI R ∧ h 0 1 = nI P ∧ h 0 3 = nI N ∧ h 0 4 = nI L ∧ h 0 6 = nI S) ∧
  (1 ≤ R ∧ R ≤ 3 ∧ 2 ≤ P ∧ P ≤ 4 ∧ N ≤ 4 ∧ L ≤ 8 ∧ S ≤ 8) ∧ (h 0 2 = 0 ∨ h 0 2 = 1) ∧
  ((∃ o, o < 2 ^ L ∧ h 0 5 = nI o) ∧ (0 < L → zbit (h 0 5) 0 = 1)) ∧
  (∀ s, s < R * P → h 1 s = nI (s / P) ∧ h 2 s = nI (s % P)) ∧
  (∀ s, s < 12 → h 3 s = -4 ∨ ∃ k, k < 6 ∧ h 3 s = nI k) ∧
  ((∀ p, p < N → h 4 p = -4 ∨ ∃ s, s < R * P ∧ h 4 p = nI s) ∧ ∀ p, p < N → ∀ q, q < N → p ≠ q → h 4 p = h 4 q → h 4 p = -4) ∧
  (∀ p, p < N → (∃ v, v < 6 ∧ h 5 p = nI v) ∧ (∃ v, v < 10 ∧ h 6 p = nI v) ∧ ∃ v, v < 16 ∧ h 7 p = nI v) ∧
  (∀ i, i < L → ∃ k, k < 6 ∧ h 8 i = nI k) ∧
  (∀ k, k < S → (∃ i, i < L ∧ h 9 k = nI i) ∧ (h 10 k = -4 ∨ ∃ p, p < N ∧ h 10 k = nI p))
/-- the reference's row that tells the same -/
def zrel (h : Nat → Nat → Int32) (a : Nat → Int32) (N L S : Nat) : Prop :=
  (∀ s, s < 12 → a s = h 3 s) ∧ (∀ p, p < N → a (12 + 4 * p) = h 4 p ∧ a (13 + 4 * p) = h 5 p ∧ a (14 + 4 * p) = h 6 p ∧ a (15 + 4 * p) = h 7 p) ∧
  (∀ i, i < L → a (28 + i) = zbit (h 0 5) i) ∧ a 36 = h 0 2 ∧ a 37 = h 0 6 ∧ ∀ k, k < S → a (38 + 2 * k) = h 9 k ∧ a (39 + 2 * k) = h 10 k
def zMM (σ : ZS) (L : Nat) : Prop := σ 3 0 0 3 = σ 1 0 0 0 ∧ σ 3 0 0 4 = σ 1 0 0 1 ∧ σ 3 0 0 5 = σ 1 0 0 3 ∧ σ 3 0 0 6 = σ 1 0 0 4 ∧ ∀ i, i < L → σ 3 0 4 i = σ 1 0 8 i
def zIm (σ : ZS) (R P N L : Nat) : Prop := ∀ k, k < 2 → σ 3 0 3 k = σ 0 0 2 k ∧ (σ 0 0 2 k = 0 ∨ σ 0 0 2 k = 1) ∧ (σ 0 0 2 k = 1 → (∃ S, zWF (σ 1 (3 + k)) R P N L S ∧ zrel (σ 1 (3 + k)) (fun j => σ 3 0 1 (54 * (k + 1) + j)) N L S) ∧ ∀ i, i < L → σ 1 (3 + k) 8 i = σ 1 0 8 i)
def zSh (σ : ZS) : Prop := ∀ k, k < 4 → ((σ 2 k 0 1 = -4 ∨ σ 2 k 0 1 = 0 ∨ σ 2 k 0 1 = 1 ∨ σ 2 k 0 1 = 2) ∧ ∃ n, n ≤ 40 ∧ σ 2 k 0 2 = nI n) ∧ σ 3 0 9 k = σ 2 k 0 1 ∧ σ 3 0 10 k = σ 2 k 0 2 ∧ ∀ i, i < 40 → σ 3 0 11 (40 * k + i) = σ 2 k 1 i
def zTp (σ : ZS) : Prop := ∃ T, T ≤ 160 ∧ σ 0 0 5 1 = nI T ∧ σ 3 0 0 19 = nI T ∧ ∀ i, i < T → (∃ b, b < 128 ∧ σ 0 0 6 i = nI b) ∧ σ 3 0 7 i = σ 0 0 6 i
def zFa (σ : ZS) : Prop := σ 3 0 0 24 = σ 0 0 0 9 ∧ σ 3 0 0 30 = σ 0 0 0 10
/-- ORDERS and the String constants -/
def zKo (σ : ZS) : Prop := (σ 5 0 0 0 = 1 ∧ σ 5 0 0 1 = 1 ∧ σ 5 0 0 2 = 2 ∧ σ 5 0 0 3 = 6 ∧ σ 5 0 0 4 = 24 ∧ σ 5 0 1 0 = 5) ∧
  (∀ i, i < 7 → σ 6 i 0 1 = 0 ∧ σ 6 i 2 0 = nI (zST i).length ∧ ∀ j, j < (zST i).length → σ 6 i 1 j = nI ((zST i).toList.getD j 'a').toNat)
def zInv (σ : ZS) : Prop := ∃ R P N L S, zWF (σ 1 0) R P N L S ∧ zrel (σ 1 0) (σ 3 0 1) N L S ∧ zMM σ L ∧ zIm σ R P N L ∧ zSh σ ∧ zTp σ ∧ zFa σ ∧ zKo σ
/-- what a question may leave behind -/
def zScC (c _ j : Nat) : Prop := c = 0 ∧ (j = 4 ∨ 7 ≤ j)
def zScr (c g j : Nat) : Prop := zScC c g j ∨ (c = 1 ∧ (g = 1 ∨ g = 2)) ∨ (c = 3 ∧ (j = 2 ∨ j = 5 ∨ j = 6 ∨ j = 8 ∨ j = 12))
theorem zfrm_row {X : Nat → Nat → Nat → Prop} {σ τ : ZS} (h : zfrm X σ τ) (c g j : Nat) (hn : ¬ X c g j) : τ c g j = σ c g j := h c g j hn
theorem zInv_q {σ τ : ZS} (h : zfrm zScr σ τ) (hi : zInv σ) : zInv τ := by
  have e1 : τ 1 0 = σ 1 0 := funext fun j => h 1 0 j (by simp [zScr, zScC])
  have e3 : τ 1 3 = σ 1 3 := funext fun j => h 1 3 j (by simp [zScr, zScC])
  have e4 : τ 1 4 = σ 1 4 := funext fun j => h 1 4 j (by simp [zScr, zScC])
  have e2 : τ 2 = σ 2 := funext fun g => funext fun j => h 2 g j (by simp [zScr, zScC])
  have c0 : τ 0 0 0 = σ 0 0 0 := h 0 0 0 (by simp [zScr, zScC])
  have c2 : τ 0 0 2 = σ 0 0 2 := h 0 0 2 (by simp [zScr, zScC])
  have c5 : τ 0 0 5 = σ 0 0 5 := h 0 0 5 (by simp [zScr, zScC])
  have c6 : τ 0 0 6 = σ 0 0 6 := h 0 0 6 (by simp [zScr, zScC])
  have m0 : τ 3 0 0 = σ 3 0 0 := h 3 0 0 (by simp [zScr, zScC])
  have m1 : τ 3 0 1 = σ 3 0 1 := h 3 0 1 (by simp [zScr, zScC])
  have m3 : τ 3 0 3 = σ 3 0 3 := h 3 0 3 (by simp [zScr, zScC])
  have m4 : τ 3 0 4 = σ 3 0 4 := h 3 0 4 (by simp [zScr, zScC])
  have m7 : τ 3 0 7 = σ 3 0 7 := h 3 0 7 (by simp [zScr, zScC])
  have m9 : τ 3 0 9 = σ 3 0 9 := h 3 0 9 (by simp [zScr, zScC])
  have m10 : τ 3 0 10 = σ 3 0 10 := h 3 0 10 (by simp [zScr, zScC])
  have m11 : τ 3 0 11 = σ 3 0 11 := h 3 0 11 (by simp [zScr, zScC])
  have k5 : τ 5 = σ 5 := funext fun g => funext fun j => h 5 g j (by simp [zScr, zScC])
  have k6 : τ 6 = σ 6 := funext fun g => funext fun j => h 6 g j (by simp [zScr, zScC])
  obtain ⟨R, P, N, L, S, a1, a2, a3, a4, a5, a6, a7, a8⟩ := hi
  refine ⟨R, P, N, L, S, by rw [e1]; exact a1, by rw [e1, m1]; exact a2, ?_, ?_, ?_, ?_, ?_, ?_⟩
  · unfold zMM
    rw [m0, e1, m4]
    exact a3
  · intro k hk
    have hk2 : τ 1 (3 + k) = σ 1 (3 + k) := by
      rcases (by omega : k = 0 ∨ k = 1) with rfl | rfl
      · exact e3
      · exact e4
    rw [m3, c2, m1, e1, hk2]
    exact a4 k hk
  · intro k hk
    rw [e2, m9, m10, m11]
    exact a5 k hk
  · unfold zTp
    rw [c5, m0, c6, m7]
    exact a6
  · unfold zFa
    rw [m0, c0]
    exact a7
  · unfold zKo
    rw [k5, k6]
    exact a8
