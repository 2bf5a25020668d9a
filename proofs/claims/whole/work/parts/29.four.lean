/-! THE SCRIPT STAYS: nothing that the small machine does writes into a cell of kind 4 -/
def z4n (s : Nat → Nat → Nat → Int32) (a : ZR) : Prop := ∀ r, a = some r → r.2 4 = s
theorem z4_none {s : Nat → Nat → Nat → Int32} : z4n s none := fun r h => by cases h
theorem z4_some {s : Nat → Nat → Nat → Int32} {v : ZV} {σ : ZS} (h : σ 4 = s) : z4n s (some (v, σ)) := fun r e => by cases e; exact h
theorem z4_ite {s : Nat → Nat → Nat → Int32} {c : Prop} [Decidable c] {a b : ZR} (h1 : z4n s a) (h2 : z4n s b) : z4n s (if c then a else b) := by
  by_cases hc : c
  · rw [if_pos hc]; exact h1
  · rw [if_neg hc]; exact h2
theorem z4_ck {s : Nat → Nat → Nat → Int32} {i : Int32} {m : Nat} {a : ZR} (h : z4n s a) : z4n s (zck i m a) := z4_ite z4_none h
theorem z4_dv {s : Nat → Nat → Nat → Int32} {i : Int32} {a : ZR} (h : z4n s a) : z4n s (zdv i a) := z4_ite z4_none h
theorem z4_dvl {s : Nat → Nat → Nat → Int32} {i : Int64} {a : ZR} (h : z4n s a) : z4n s (zdvl i a) := z4_ite z4_none h
theorem z4_bb {s : Nat → Nat → Nat → Int32} {i : Int32} {a : ZR} (h : z4n s a) : z4n s (zbb i a) := z4_ite h z4_none
theorem z4_tr {s : Nat → Nat → Nat → Int32} {c : Bool} {a : ZR} (h : c = true → z4n s a) : z4n s (ztr c a) := by
  cases c
  · exact z4_none
  · exact h rfl
theorem z4_ft {s : Nat → Nat → Nat → Int32} {k : Nat} {i : Int32} {a : ZR} (h : z4n s a) : z4n s (zft k i a) := by
  cases k
  · exact h
  · exact z4_bb h
theorem z4_rt {s : Nat → Nat → Nat → Int32} {k : Nat} {i : Int32} {a : ZR} (h : z4n s a) : z4n s (zrt k i a) := by
  match k with
  | 0 => exact h
  | 1 => exact z4_bb h
  | 2 => exact z4_ite h z4_none
  | _ + 3 => exact z4_ite h z4_none
theorem z4_pI {s : Nat → Nat → Nat → Int32} {st : List ZV} {f : Int32 → List ZV → ZR} (h : ∀ a q, z4n s (f a q)) : z4n s (zpI st f) := by
  rcases st with _ | ⟨a | a | a, q⟩
  · exact z4_none
  · exact h a q
  · exact z4_none
  · exact z4_none
theorem z4_pJ {s : Nat → Nat → Nat → Int32} {st : List ZV} {f : Int64 → List ZV → ZR} (h : ∀ a q, z4n s (f a q)) : z4n s (zpJ st f) := by
  rcases st with _ | ⟨a | a | a, q⟩
  · exact z4_none
  · exact z4_none
  · exact h a q
  · exact z4_none
theorem z4_pA {s : Nat → Nat → Nat → Int32} {st : List ZV} {f : ZN → List ZV → ZR} (h : ∀ a q, z4n s (f a q)) : z4n s (zpA st f) := by
  rcases st with _ | ⟨a | a | a, q⟩
  · exact z4_none
  · exact z4_none
  · exact z4_none
  · exact h a q
theorem z4_p1 {s : Nat → Nat → Nat → Int32} {st : List ZV} {f : ZV → List ZV → ZR} (h : ∀ a q, z4n s (f a q)) : z4n s (zp1 st f) := by
  rcases st with _ | ⟨a, q⟩
  · exact z4_none
  · exact z4_tr fun _ => h a q
theorem z4_pE {s : Nat → Nat → Nat → Int32} {st : List ZV} {a : ZR} (h : z4n s a) : z4n s (zpE st a) := by
  rcases st with _ | ⟨b, q⟩
  · exact h
  · exact z4_none
theorem z4_gI {s : Nat → Nat → Nat → Int32} {ls : ZL} {i : Nat} {f : Int32 → ZR} (h : ∀ a, z4n s (f a)) : z4n s (zgI ls i f) := by
  unfold zgI
  rcases zget ls i with _ | a | a | a
  · exact z4_none
  · exact h a
  · exact z4_none
  · exact z4_none
theorem z4_gJ {s : Nat → Nat → Nat → Int32} {ls : ZL} {i : Nat} {f : Int64 → ZR} (h : ∀ a, z4n s (f a)) : z4n s (zgJ ls i f) := by
  unfold zgJ
  rcases zget ls i with _ | a | a | a
  · exact z4_none
  · exact z4_none
  · exact h a
  · exact z4_none
theorem z4_gA {s : Nat → Nat → Nat → Int32} {ls : ZL} {i : Nat} {f : ZN → ZR} (h : ∀ a, z4n s (f a)) : z4n s (zgA ls i f) := by
  unfold zgA
  rcases zget ls i with _ | a | a | a
  · exact z4_none
  · exact z4_none
  · exact z4_none
  · exact h a
theorem z4_pn {s : Nat → Nat → Nat → Int32} {m : Nat} {st : List ZV} {f : List ZV → List ZV → ZR} (h : ∀ a q, z4n s (f a q)) : z4n s (zpn m st f) := by
  unfold zpn
  rcases zpop m [] st with _ | ⟨a, q⟩
  · exact z4_none
  · exact h a q
theorem z4_cl {s : Nat → Nat → Nat → Int32} {k : Nat} {o : ZR} {f : Option ZV → ZS → ZR} (ho : z4n s o) (h : ∀ a τ, τ 4 = s → z4n s (f a τ)) : z4n s (zcl k o f) := by
  rcases o with _ | ⟨v, τ⟩
  · match k with
    | 0 => exact z4_none
    | 1 => exact z4_none
    | 2 => exact z4_none
    | _ + 3 => exact z4_none
  · have ht : τ 4 = s := ho _ rfl
    match k with
    | 0 => exact h _ τ ht
    | 1 =>
      rcases v with v | v | v
      · exact h _ τ ht
      · exact z4_none
      · exact z4_none
    | 2 =>
      rcases v with v | v | v
      · exact z4_none
      · exact h _ τ ht
      · exact z4_none
    | _ + 3 => exact z4_none
theorem z4_sw {s : Nat → Nat → Nat → Int32} {x : Int32} {d : Nat} {f : Nat → ZR} (h : ∀ a, z4n s (f a)) : ∀ l : List (Int32 × Nat), z4n s (zsw x d f l)
  | [] => h d
  | q :: l => z4_ite (h q.2) (z4_sw h l)
theorem z4_up {s : Nat → Nat → Nat → Int32} {σ : ZS} (c g j i : Nat) (v : Int32) (hc : Nat.blt c 4 = true) (h : σ 4 = s) : zup σ c g j i v 4 = s := by
  have hc := Nat.blt_eq.mp hc
  rw [← h]
  funext g' j' i'
  unfold zup
  rw [if_neg (fun e => by have := e.1; omega)]
theorem z4_cpy {s : Nat → Nat → Nat → Int32} {σ : ZS} (c g j d e f n : Nat) (hc : Nat.blt d 4 = true) (h : σ 4 = s) : zcpy σ c g j d e f n 4 = s := by
  have hc := Nat.blt_eq.mp hc
  rw [← h]
  funext g' j' i'
  unfold zcpy
  rw [if_neg (fun e => by have := e.1; omega)]
theorem zandl {a b : Bool} (h : (a && b) = true) : a = true := by cases a; cases h; rfl
theorem zandr {a b : Bool} (h : (a && b) = true) : b = true := by cases a; cases h; exact h
theorem zsem_z4 {s : Nat → Nat → Nat → Int32} {C : Nat → List ZV → ZS → ZR} (hC : ∀ m as σ, σ 4 = s → z4n s (C m as σ)) {K : Nat → ZL → List ZV → ZS → ZR} (hK : ∀ pc ls st σ, σ 4 = s → z4n s (K pc ls st σ)) (i : Instr) (nx : Nat) (x : ZX) (ls : ZL) (st : List ZV) (σ : ZS) (h : σ 4 = s) : z4n s (zsem C i nx x ls st σ K) := by
  unfold zsem
  split
  all_goals first
    | exact z4_none
    | exact hK _ _ _ _ h
    | exact z4_gI fun _ => hK _ _ _ _ h
    | exact z4_gJ fun _ => hK _ _ _ _ h
    | exact z4_gA fun _ => hK _ _ _ _ h
    | exact z4_pI fun _ _ => hK _ _ _ _ h
    | exact z4_pJ fun _ _ => hK _ _ _ _ h
    | exact z4_pA fun _ _ => hK _ _ _ _ h
    | exact z4_p1 fun _ _ => hK _ _ _ _ h
    | exact z4_p1 fun _ _ => z4_p1 fun _ _ => hK _ _ _ _ h
    | exact z4_pI fun _ _ => z4_pI fun _ _ => hK _ _ _ _ h
    | exact z4_pJ fun _ _ => z4_pJ fun _ _ => hK _ _ _ _ h
    | exact z4_pI fun _ _ => z4_pI fun _ _ => z4_dv (hK _ _ _ _ h)
    | exact z4_pJ fun _ _ => z4_pJ fun _ _ => z4_dvl (hK _ _ _ _ h)
    | exact z4_pI fun _ _ => z4_ite (hK _ _ _ _ h) (hK _ _ _ _ h)
    | exact z4_pI fun _ _ => z4_pI fun _ _ => z4_ite (hK _ _ _ _ h) (hK _ _ _ _ h)
    | exact z4_pI fun _ _ => z4_sw (fun _ => hK _ _ _ _ h) _
    | exact z4_pA fun _ _ => z4_tr fun _ => hK _ _ _ _ h
    | exact z4_pA fun _ _ => z4_tr fun _ => z4_tr fun _ => hK _ _ _ _ h
    | exact z4_pI fun _ _ => z4_pA fun _ _ => z4_tr fun e => z4_ft (hK _ _ _ _ (z4_up _ _ _ _ _ (zandl (zandr e)) h))
    | exact z4_pI fun _ _ => z4_pA fun _ _ => z4_tr fun _ => z4_ck (hK _ _ _ _ h)
    | exact z4_pI fun _ _ => z4_pI fun _ _ => z4_pA fun _ _ => z4_tr fun e => z4_ck (hK _ _ _ _ (z4_up _ _ _ _ _ (zandr e) h))
    | exact z4_pn fun _ _ => z4_tr fun _ => z4_cl (hC _ _ _ h) fun _ _ h => hK _ _ _ _ h
    | exact z4_pI fun _ _ => z4_pE (z4_rt (z4_some h))
    | exact z4_pJ fun _ _ => z4_pE (z4_some h)
    | exact z4_pE (z4_some h)
    | skip
  split
  · exact z4_pI fun _ _ => z4_pI fun _ _ => z4_pA fun _ _ => z4_pI fun _ _ => z4_pA fun _ _ => z4_tr fun e => hK _ _ _ _ (z4_cpy _ _ _ _ _ _ _ (zandr (zandr (zandr (zandl e)))) h)
  · exact z4_pI fun _ _ => z4_tr fun _ => hK _ _ _ _ h
  · exact z4_pJ fun _ _ => z4_tr fun _ => hK _ _ _ _ h
  · exact z4_pn fun _ _ => z4_tr fun _ => z4_cl (hC _ _ _ h) fun _ _ h => hK _ _ _ _ h
theorem zrun_z4 {s : Nat → Nat → Nat → Int32} {code : List ZE} {C : Nat → List ZV → ZS → ZR} (hC : ∀ m as σ, σ 4 = s → z4n s (C m as σ)) {X : Nat → ZL → List ZV → ZS → ZR} (hX : ∀ pc ls st σ, σ 4 = s → z4n s (X pc ls st σ)) : ∀ (k : Nat) (e : ZE) (ls : ZL) (st : List ZV) (σ : ZS), σ 4 = s → z4n s (zrun code C X k e ls st σ)
  | 0, _, _, _, _, _ => z4_none
  | k + 1, e, ls, st, σ, h => by
    unfold zrun
    refine zsem_z4 hC (fun pc ls st σ h => ?_) _ _ _ _ _ _ h
    rcases zfind code pc with _ | f
    · exact z4_none
    · obtain ⟨f1, f2, f3, lv, f5⟩ := f
      rcases lv with _ | lv
      · exact zrun_z4 hC hX k _ _ _ _ h
      · dsimp only
        rcases zpick ls lv with _ | l
        · exact z4_none
        · exact hX _ _ _ _ h
theorem zexec_z4 {s : Nat → Nat → Nat → Int32} {codes : Nat → List ZE} : ∀ (n mi pc : Nat) (ls : ZL) (st : List ZV) (σ : ZS), σ 4 = s → z4n s (zexec codes n mi pc ls st σ)
  | 0, _, _, _, _, _, _ => z4_none
  | n + 1, mi, pc, ls, st, σ, h => by
    unfold zexec
    rcases zfind (codes mi) pc with _ | e
    · exact z4_none
    · exact zrun_z4 (fun m as σ h => zexec_z4 n m 0 _ _ σ h) (fun pc ls st σ h => zexec_z4 n mi pc ls st σ h) 600 e ls st σ h
theorem zcall_4 {m : Nat} {as : List ZV} {σ τ : ZS} {v : ZV} (h : zcall m as σ = some (v, τ)) : τ 4 = σ 4 := by
  obtain ⟨n, hn⟩ := zev_some.mp h
  exact zexec_z4 n m 0 _ _ σ rfl _ hn
