/-! WHAT A RUN COMES TO, HOWEVER LONG: the equation of a stop, without fuel -/
def zcn (a : ZR) (b : Nat → ZR) (r : ZV × ZS) : Prop := a = some r → ∃ N, ∀ n, N ≤ n → b n = some r
theorem zc_none {b : Nat → ZR} {r : ZV × ZS} : zcn none b r := fun h => by cases h
theorem zc_some {q r : ZV × ZS} : zcn (some q) (fun _ => some q) r := fun h => ⟨0, fun _ _ => h⟩
theorem zc_ite {c : Prop} [Decidable c] {a b : ZR} {a' b' : Nat → ZR} {r : ZV × ZS} (h1 : zcn a a' r) (h2 : zcn b b' r) : zcn (if c then a else b) (fun n => if c then a' n else b' n) r := by
  by_cases hc : c
  · simp only [hc, if_true]; exact h1
  · simp only [hc, if_false]; exact h2
theorem zc_ck {i : Int32} {m : Nat} {a : ZR} {a' : Nat → ZR} {r : ZV × ZS} (h : zcn a a' r) : zcn (zck i m a) (fun n => zck i m (a' n)) r := zc_ite zc_none h
theorem zc_dv {i : Int32} {a : ZR} {a' : Nat → ZR} {r : ZV × ZS} (h : zcn a a' r) : zcn (zdv i a) (fun n => zdv i (a' n)) r := zc_ite zc_none h
theorem zc_dvl {i : Int64} {a : ZR} {a' : Nat → ZR} {r : ZV × ZS} (h : zcn a a' r) : zcn (zdvl i a) (fun n => zdvl i (a' n)) r := zc_ite zc_none h
theorem zc_bb {i : Int32} {a : ZR} {a' : Nat → ZR} {r : ZV × ZS} (h : zcn a a' r) : zcn (zbb i a) (fun n => zbb i (a' n)) r := zc_ite h zc_none
theorem zc_tr {c : Bool} {a : ZR} {a' : Nat → ZR} {r : ZV × ZS} (h : zcn a a' r) : zcn (ztr c a) (fun n => ztr c (a' n)) r := by
  cases c
  · exact zc_none
  · exact h
theorem zc_ft {k : Nat} {i : Int32} {a : ZR} {a' : Nat → ZR} {r : ZV × ZS} (h : zcn a a' r) : zcn (zft k i a) (fun n => zft k i (a' n)) r := by
  cases k
  · exact h
  · exact zc_bb h
theorem zc_rt {k : Nat} {i : Int32} {q r : ZV × ZS} : zcn (zrt k i (some q)) (fun _ => zrt k i (some q)) r := fun h => ⟨0, fun _ _ => h⟩
theorem zc_pI {st : List ZV} {f : Int32 → List ZV → ZR} {f' : Nat → Int32 → List ZV → ZR} {r : ZV × ZS} (h : ∀ a q, zcn (f a q) (fun n => f' n a q) r) : zcn (zpI st f) (fun n => zpI st (f' n)) r := by
  rcases st with _ | ⟨a | a | a, q⟩
  · exact zc_none
  · exact h a q
  · exact zc_none
  · exact zc_none
theorem zc_pJ {st : List ZV} {f : Int64 → List ZV → ZR} {f' : Nat → Int64 → List ZV → ZR} {r : ZV × ZS} (h : ∀ a q, zcn (f a q) (fun n => f' n a q) r) : zcn (zpJ st f) (fun n => zpJ st (f' n)) r := by
  rcases st with _ | ⟨a | a | a, q⟩
  · exact zc_none
  · exact zc_none
  · exact h a q
  · exact zc_none
theorem zc_pA {st : List ZV} {f : ZN → List ZV → ZR} {f' : Nat → ZN → List ZV → ZR} {r : ZV × ZS} (h : ∀ a q, zcn (f a q) (fun n => f' n a q) r) : zcn (zpA st f) (fun n => zpA st (f' n)) r := by
  rcases st with _ | ⟨a | a | a, q⟩
  · exact zc_none
  · exact zc_none
  · exact zc_none
  · exact h a q
theorem zc_p1 {st : List ZV} {f : ZV → List ZV → ZR} {f' : Nat → ZV → List ZV → ZR} {r : ZV × ZS} (h : ∀ a q, zcn (f a q) (fun n => f' n a q) r) : zcn (zp1 st f) (fun n => zp1 st (f' n)) r := by
  rcases st with _ | ⟨a, q⟩
  · exact zc_none
  · exact zc_tr (h a q)
theorem zc_pE {st : List ZV} {a : ZR} {a' : Nat → ZR} {r : ZV × ZS} (h : zcn a a' r) : zcn (zpE st a) (fun n => zpE st (a' n)) r := by
  rcases st with _ | ⟨b, q⟩
  · exact h
  · exact zc_none
theorem zc_gI {ls : ZL} {i : Nat} {f : Int32 → ZR} {f' : Nat → Int32 → ZR} {r : ZV × ZS} (h : ∀ a, zcn (f a) (fun n => f' n a) r) : zcn (zgI ls i f) (fun n => zgI ls i (f' n)) r := by
  unfold zgI
  rcases zget ls i with _ | a | a | a
  · exact zc_none
  · exact h a
  · exact zc_none
  · exact zc_none
theorem zc_gJ {ls : ZL} {i : Nat} {f : Int64 → ZR} {f' : Nat → Int64 → ZR} {r : ZV × ZS} (h : ∀ a, zcn (f a) (fun n => f' n a) r) : zcn (zgJ ls i f) (fun n => zgJ ls i (f' n)) r := by
  unfold zgJ
  rcases zget ls i with _ | a | a | a
  · exact zc_none
  · exact zc_none
  · exact h a
  · exact zc_none
theorem zc_gA {ls : ZL} {i : Nat} {f : ZN → ZR} {f' : Nat → ZN → ZR} {r : ZV × ZS} (h : ∀ a, zcn (f a) (fun n => f' n a) r) : zcn (zgA ls i f) (fun n => zgA ls i (f' n)) r := by
  unfold zgA
  rcases zget ls i with _ | a | a | a
  · exact zc_none
  · exact zc_none
  · exact zc_none
  · exact h a
theorem zc_pn {m : Nat} {st : List ZV} {f : List ZV → List ZV → ZR} {f' : Nat → List ZV → List ZV → ZR} {r : ZV × ZS} (h : ∀ a q, zcn (f a q) (fun n => f' n a q) r) : zcn (zpn m st f) (fun n => zpn m st (f' n)) r := by
  unfold zpn
  rcases zpop m [] st with _ | ⟨a, q⟩
  · exact zc_none
  · exact h a q
theorem zc_bI {o : ZR} {o' : Nat → ZR} {f : Int32 → ZS → ZR} {f' : Nat → Int32 → ZS → ZR} {r : ZV × ZS} (ho : ∀ q, zcn o o' q) (h : ∀ a q, zcn (f a q) (fun n => f' n a q) r) : zcn (zbI o f) (fun n => zbI (o' n) (f' n)) r := by
  intro e
  rcases o with _ | ⟨a | a | a, q⟩
  · cases e
  · obtain ⟨N, h1⟩ := ho _ rfl
    obtain ⟨M, h2⟩ := h a q e
    exact ⟨N + M, fun n hn => by dsimp only; rw [h1 n (by omega)]; exact h2 n (by omega)⟩
  · cases e
  · cases e
theorem zc_bJ {o : ZR} {o' : Nat → ZR} {f : Int64 → ZS → ZR} {f' : Nat → Int64 → ZS → ZR} {r : ZV × ZS} (ho : ∀ q, zcn o o' q) (h : ∀ a q, zcn (f a q) (fun n => f' n a q) r) : zcn (zbJ o f) (fun n => zbJ (o' n) (f' n)) r := by
  intro e
  rcases o with _ | ⟨a | a | a, q⟩
  · cases e
  · cases e
  · obtain ⟨N, h1⟩ := ho _ rfl
    obtain ⟨M, h2⟩ := h a q e
    exact ⟨N + M, fun n hn => by dsimp only; rw [h1 n (by omega)]; exact h2 n (by omega)⟩
  · cases e
theorem zc_bV {o : ZR} {o' : Nat → ZR} {f : ZS → ZR} {f' : Nat → ZS → ZR} {r : ZV × ZS} (ho : ∀ q, zcn o o' q) (h : ∀ q, zcn (f q) (fun n => f' n q) r) : zcn (zbV o f) (fun n => zbV (o' n) (f' n)) r := by
  intro e
  rcases o with _ | ⟨a, q⟩
  · cases e
  · obtain ⟨N, h1⟩ := ho _ rfl
    obtain ⟨M, h2⟩ := h q e
    exact ⟨N + M, fun n hn => by dsimp only; rw [h1 n (by omega)]; exact h2 n (by omega)⟩
theorem zc_cl {k : Nat} {o : ZR} {o' : Nat → ZR} {f : Option ZV → ZS → ZR} {f' : Nat → Option ZV → ZS → ZR} {r : ZV × ZS} (ho : ∀ q, zcn o o' q) (h : ∀ a q, zcn (f a q) (fun n => f' n a q) r) : zcn (zcl k o f) (fun n => zcl k (o' n) (f' n)) r := by
  match k with
  | 0 => exact zc_bV ho (fun q => h _ q)
  | 1 => exact zc_bI ho (fun a q => h _ q)
  | 2 => exact zc_bJ ho (fun a q => h _ q)
  | _ + 3 => exact zc_none
theorem zc_sw {x : Int32} {d : Nat} {f : Nat → ZR} {f' : Nat → Nat → ZR} {r : ZV × ZS} (h : ∀ a, zcn (f a) (fun n => f' n a) r) : ∀ l : List (Int32 × Nat), zcn (zsw x d f l) (fun n => zsw x d (f' n) l) r
  | [] => h d
  | q :: l => zc_ite (h q.2) (zc_sw h l)
theorem zsem_cn {Cw : Nat → List ZV → ZS → ZR} {C : Nat → Nat → List ZV → ZS → ZR} (hC : ∀ m as σ r, zcn (Cw m as σ) (fun n => C n m as σ) r) {Kw : Nat → ZL → List ZV → ZS → ZR} {K : Nat → Nat → ZL → List ZV → ZS → ZR} (hK : ∀ pc ls st σ r, zcn (Kw pc ls st σ) (fun n => K n pc ls st σ) r) (i : Instr) (nx : Nat) (x : ZX) (ls : ZL) (st : List ZV) (σ : ZS) (r : ZV × ZS) : zcn (zsem Cw i nx x ls st σ Kw) (fun n => zsem (C n) i nx x ls st σ (K n)) r := by
  unfold zsem
  split
  all_goals first
    | exact zc_none
    | exact hK _ _ _ _ _
    | exact zc_gI fun _ => hK _ _ _ _ _
    | exact zc_gJ fun _ => hK _ _ _ _ _
    | exact zc_gA fun _ => hK _ _ _ _ _
    | exact zc_pI fun _ _ => hK _ _ _ _ _
    | exact zc_pJ fun _ _ => hK _ _ _ _ _
    | exact zc_pA fun _ _ => hK _ _ _ _ _
    | exact zc_p1 fun _ _ => hK _ _ _ _ _
    | exact zc_p1 fun _ _ => zc_p1 fun _ _ => hK _ _ _ _ _
    | exact zc_pI fun _ _ => zc_pI fun _ _ => hK _ _ _ _ _
    | exact zc_pJ fun _ _ => zc_pJ fun _ _ => hK _ _ _ _ _
    | exact zc_pI fun _ _ => zc_pI fun _ _ => zc_dv (hK _ _ _ _ _)
    | exact zc_pJ fun _ _ => zc_pJ fun _ _ => zc_dvl (hK _ _ _ _ _)
    | exact zc_pI fun _ _ => zc_ite (hK _ _ _ _ _) (hK _ _ _ _ _)
    | exact zc_pI fun _ _ => zc_pI fun _ _ => zc_ite (hK _ _ _ _ _) (hK _ _ _ _ _)
    | exact zc_pI fun _ _ => zc_sw (fun _ => hK _ _ _ _ _) _
    | exact zc_pA fun _ _ => zc_tr (hK _ _ _ _ _)
    | exact zc_pA fun _ _ => zc_tr (zc_tr (hK _ _ _ _ _))
    | exact zc_pI fun _ _ => zc_pA fun _ _ => zc_tr (zc_ft (hK _ _ _ _ _))
    | exact zc_pI fun _ _ => zc_pA fun _ _ => zc_tr (zc_ck (hK _ _ _ _ _))
    | exact zc_pI fun _ _ => zc_pI fun _ _ => zc_pA fun _ _ => zc_tr (zc_ck (hK _ _ _ _ _))
    | exact zc_pn fun _ _ => zc_tr (zc_cl (hC _ _ _) fun _ _ => hK _ _ _ _ _)
    | exact zc_pI fun _ _ => zc_pE zc_rt
    | exact zc_pJ fun _ _ => zc_pE zc_some
    | exact zc_pE zc_some
    | skip
  split
  · exact zc_pI fun _ _ => zc_pI fun _ _ => zc_pA fun _ _ => zc_pI fun _ _ => zc_pA fun _ _ => zc_tr (hK _ _ _ _ _)
  · exact zc_pI fun _ _ => zc_tr (hK _ _ _ _ _)
  · exact zc_pJ fun _ _ => zc_tr (hK _ _ _ _ _)
  · exact zc_pn fun _ _ => zc_tr (zc_cl (hC _ _ _) fun _ _ => hK _ _ _ _ _)
theorem zrun_cn {code : List ZE} {Cw : Nat → List ZV → ZS → ZR} {C : Nat → Nat → List ZV → ZS → ZR} (hC : ∀ m as σ r, zcn (Cw m as σ) (fun n => C n m as σ) r) {Xw : Nat → ZL → List ZV → ZS → ZR} {X : Nat → Nat → ZL → List ZV → ZS → ZR} (hX : ∀ pc ls st σ r, zcn (Xw pc ls st σ) (fun n => X n pc ls st σ) r) : ∀ (k : Nat) (e : ZE) (ls : ZL) (st : List ZV) (σ : ZS) (r : ZV × ZS), zcn (zrun code Cw Xw k e ls st σ) (fun n => zrun code (C n) (X n) k e ls st σ) r
  | 0, _, _, _, _, _ => zc_none
  | k + 1, e, ls, st, σ, r => by
    unfold zrun
    refine zsem_cn hC (fun pc ls st σ r => ?_) _ _ _ _ _ _ _
    rcases zfind code pc with _ | f
    · exact zc_none
    · obtain ⟨f1, f2, f3, lv, f5⟩ := f
      rcases lv with _ | lv
      · exact zrun_cn hC hX k _ _ _ _ _
      · dsimp only
        rcases zpick ls lv with _ | l
        · exact zc_none
        · exact hX _ _ _ _ _
theorem zexec_mono {codes : Nat → List ZE} : ∀ (n mi pc : Nat) (ls : ZL) (st : List ZV) (σ : ZS) (r : ZV × ZS), zexec codes n mi pc ls st σ = some r → zexec codes (n + 1) mi pc ls st σ = some r
  | 0, _, _, _, _, _, _, h => by cases h
  | n + 1, mi, pc, ls, st, σ, r, h => by
    unfold zexec at h ⊢
    rcases hf : zfind (codes mi) pc with _ | e
    · rw [hf] at h; cases h
    · rw [hf] at h
      obtain ⟨N, hN⟩ := zrun_cn (C := fun _ m as σ => zexec codes (n + 1) m 0 (zargs 0 as) [] σ) (X := fun _ => zexec codes (n + 1) mi) (fun m as σ r h => ⟨0, fun _ _ => zexec_mono n _ _ _ _ _ _ h⟩) (fun pc ls st σ r h => ⟨0, fun _ _ => zexec_mono n _ _ _ _ _ _ h⟩) 600 e ls st σ r h
      exact hN N (Nat.le_refl _)
theorem zexec_le {codes : Nat → List ZE} {mi pc : Nat} {ls : ZL} {st : List ZV} {σ : ZS} {r : ZV × ZS} {n m : Nat} (hnm : n ≤ m) (h : zexec codes n mi pc ls st σ = some r) : zexec codes m mi pc ls st σ = some r := by
  induction hnm with
  | refl => exact h
  | step _ ih => exact zexec_mono _ _ _ _ _ _ _ ih
noncomputable def zev (mi pc : Nat) (ls : ZL) (st : List ZV) (σ : ZS) : ZR := by
  classical
  exact if h : ∃ r, ∃ n, zexec zcodes n mi pc ls st σ = some r then some h.choose else none
noncomputable def zcall (mi : Nat) (as : List ZV) (σ : ZS) : ZR := zev mi 0 (zargs 0 as) [] σ
theorem zev_some {mi pc : Nat} {ls : ZL} {st : List ZV} {σ : ZS} {r : ZV × ZS} : zev mi pc ls st σ = some r ↔ ∃ n, zexec zcodes n mi pc ls st σ = some r := by
  constructor
  · intro h
    unfold zev at h
    split at h
    · next hh =>
      cases h
      exact hh.choose_spec
    · cases h
  · intro h
    obtain ⟨n, hn⟩ := h
    unfold zev
    have hh : ∃ r, ∃ n, zexec zcodes n mi pc ls st σ = some r := ⟨r, n, hn⟩
    rw [dif_pos hh]
    obtain ⟨m, hm⟩ := hh.choose_spec
    have h1 := zexec_le (Nat.le_max_left n m) hn
    have h2 := zexec_le (Nat.le_max_right n m) hm
    exact h2.symm.trans h1
theorem zev_cn (mi pc : Nat) (ls : ZL) (st : List ZV) (σ : ZS) (r : ZV × ZS) : zcn (zev mi pc ls st σ) (fun n => zexec zcodes n mi pc ls st σ) r := by
  intro h
  obtain ⟨n, hn⟩ := zev_some.mp h
  exact ⟨n, fun m hm => zexec_le hm hn⟩
theorem zev_eq (mi pc : Nat) (ls : ZL) (st : List ZV) (σ : ZS) : zev mi pc ls st σ = (match zfind (zcodes mi) pc with
    | some e => zrun (zcodes mi) (fun m as σ => zcall m as σ) (zev mi) 600 e ls st σ
    | none => none) := by
  have key : ∀ r, zev mi pc ls st σ = some r ↔ (match zfind (zcodes mi) pc with
    | some e => zrun (zcodes mi) (fun m as σ => zcall m as σ) (zev mi) 600 e ls st σ
    | none => none) = some r := by
    intro r
    constructor
    · intro h
      obtain ⟨n, hn⟩ := zev_some.mp h
      cases n with
      | zero => cases hn
      | succ n =>
        unfold zexec at hn
        rcases hf : zfind (zcodes mi) pc with _ | e
        · rw [hf] at hn; cases hn
        · rw [hf] at hn
          obtain ⟨N, hN⟩ := zrun_cn (C := fun _ m as σ => zcall m as σ) (X := fun _ => zev mi) (fun m as σ r h => ⟨0, fun _ _ => zev_some.mpr ⟨n, h⟩⟩) (fun pc ls st σ r h => ⟨0, fun _ _ => zev_some.mpr ⟨n, h⟩⟩) 600 e ls st σ r hn
          exact hN N (Nat.le_refl _)
    · intro h
      rcases hf : zfind (zcodes mi) pc with _ | e
      · rw [hf] at h; cases h
      · rw [hf] at h
        obtain ⟨N, hN⟩ := zrun_cn (C := fun n m as σ => zexec zcodes n m 0 (zargs 0 as) [] σ) (X := fun n => zexec zcodes n mi) (fun m as σ r => zev_cn _ _ _ _ _ _) (fun pc ls st σ r => zev_cn _ _ _ _ _ _) 600 e ls st σ r h
        refine zev_some.mpr ⟨N + 1, ?_⟩
        unfold zexec
        rw [hf]
        exact hN N (Nat.le_refl _)
  rcases h : zev mi pc ls st σ with _ | r
  · rcases h2 : (match zfind (zcodes mi) pc with
    | some e => zrun (zcodes mi) (fun m as σ => zcall m as σ) (zev mi) 600 e ls st σ
    | none => none) with _ | r
    · exact h2.symm
    · rw [(key r).mpr h2] at h; cases h
  · exact ((key r).mp h).symm
