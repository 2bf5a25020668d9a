/-- what a run comes to, however long -/
noncomputable def zev (mi pc : Nat) (ls : ZL) (st : List ZV) (σ : ZS) : ZR := by
  classical
  exact if h : ∃ r, ∃ N, ∀ n, N ≤ n → zexec zcodes n mi pc ls st σ = some r then some h.choose else none
noncomputable def zcall (mi : Nat) (as : List ZV) (σ : ZS) : ZR := zev mi 0 (zargs 0 as) [] σ
theorem zev_eq (mi pc : Nat) (ls : ZL) (st : List ZV) (σ : ZS) : zev mi pc ls st σ = (match zfind (zcodes mi) pc with
    | some e => zrun (zcodes mi) (fun m as σ => zcall m as σ) (zev mi) 600 e ls st σ
    | none => none) := by
  sorry
