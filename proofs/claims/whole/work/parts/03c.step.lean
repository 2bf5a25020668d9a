/-! THE STEP: whatever the small machine does at an instruction, the machine does (wip/gen/gen03c.py) -/
section ZSTEP2
variable {p : Program} {l : Launch} {e : Env} {R : Room} {s : State} {m : MethodId} {args : Array Value} {below : List Frame} {meth : Method} {c : Code} {cells slots : Nat} {Q : State → Prop}
variable {dC : Nat → ClassId} {dI : Nat → Nat → Nat} {cA : Nat → ClassId} {ad : ZN → Nat} {fv : Value} {nms : List ZN} {A : Nat → Prop} {ro : Bool} {ρ : ZS} {mi : Nat}
theorem zvs_i {x : Int32} {st : List ZV} (h : zvs nms ro st) : zvs nms ro (.inl x :: st) := fun v hv => by
  rcases List.mem_cons.mp hv with rfl | hv
  · trivial
  · exact h v hv
theorem zvs_j {x : Int64} {st : List ZV} (h : zvs nms ro st) : zvs nms ro (.inr (.inl x) :: st) := fun v hv => by
  rcases List.mem_cons.mp hv with rfl | hv
  · trivial
  · exact h v hv
theorem zvs_p {x : ZV} {st : List ZV} (hx : zvd nms ro x) (h : zvs nms ro st) : zvs nms ro (x :: st) := fun v hv => by
  rcases List.mem_cons.mp hv with rfl | hv
  · exact hx
  · exact h v hv
theorem zvs_t {x : ZV} {st : List ZV} (h : zvs nms ro (x :: st)) : zvs nms ro st := fun v hv => h v (List.mem_cons_of_mem _ hv)
theorem zvs_h {x : ZV} {st : List ZV} (h : zvs nms ro (x :: st)) : zvd nms ro x := h x List.mem_cons_self
theorem zvl_s1 {i : Nat} {v : ZV} {ls : ZL} (hv : zvd nms ro v) (h : zvl nms ro ls) : zvl nms ro ((i, v) :: zdrop1 ls i) := fun q hq => by
  rcases List.mem_cons.mp hq with rfl | hq
  · exact hv
  · exact h q (zdrop1_s _ _ _ hq)
theorem zvl_s2 {i : Nat} {v : ZV} {ls : ZL} (hv : zvd nms ro v) (h : zvl nms ro ls) : zvl nms ro ((i, v) :: zdrop2 ls i) := fun q hq => by
  rcases List.mem_cons.mp hq with rfl | hq
  · exact hv
  · exact h q (zdrop2_s _ _ _ hq)
theorem zvl_g {i : Nat} {v : ZV} {ls : ZL} (hg : zget ls i = some v) (h : zvl nms ro ls) : zvd nms ro v := h _ (zget_mem hg)
/-- a cell's value is a reference or null -/
theorem zcv_ref (hfv : fv = .null ∨ ∃ a, fv = .ref a) (n : ZN) : zcv ad fv (.inr (.inr n)) = .null ∨ ∃ a, zcv ad fv (.inr (.inr n)) = .ref a := by
  show (match Nat.beq n.1 7 with | true => fv | false => Value.ref (ad n)) = .null ∨ ∃ a, (match Nat.beq n.1 7 with | true => fv | false => Value.ref (ad n)) = .ref a
  cases Nat.beq n.1 7
  · exact Or.inr ⟨_, rfl⟩
  · exact hfv
theorem zcv_A {n : ZN} (h : n.1 < 7) : zcv ad fv (.inr (.inr n)) = .ref (ad n) := by
  show (match Nat.beq n.1 7 with | true => fv | false => Value.ref (ad n)) = _
  have : Nat.beq n.1 7 = false := by
    rw [← Bool.not_eq_true, Nat.beq_eq]
    omega
  rw [this]
theorem zsw_tab {a : Int32} {d : Nat} {f : Nat → ZR} {r : ZV × ZS} {pc : Nat} : ∀ (os : List Int) (l : List (Int32 × Nat)) (lo : Int), ztabok pc lo os l = true → zsw a d f l = some r →
    (∃ (i : Nat) (o : Int) (t : Nat), os[i]? = some o ∧ a.toInt = lo + i ∧ (pc : Int) + o = (t : Int) ∧ f t = some r) ∨ ((a.toInt < lo ∨ lo + os.length ≤ a.toInt) ∧ f d = some r)
  | [], [], lo, _, h => Or.inr ⟨by simp only [List.length_nil]; omega, h⟩
  | [], _ :: _, _, h, _ => by cases h
  | _ :: _, [], _, h, _ => by cases h
  | o :: os, q :: l, lo, hk, h => by
    unfold ztabok at hk
    simp only [Bool.and_eq_true, decide_eq_true_eq] at hk
    obtain ⟨k1, k2, k3⟩ := hk
    unfold zsw at h
    by_cases hz : a = q.1
    · rw [if_pos hz] at h
      exact Or.inl ⟨0, o, q.2, rfl, by rw [hz, k1]; simp, k2, h⟩
    · rw [if_neg hz] at h
      have hne : ¬ a.toInt = lo := fun z => hz (Int32.toInt_inj.mp (by rw [k1]; exact z))
      rcases zsw_tab os l (lo + 1) k3 h with ⟨i, o2, t, h1, h2, h3, h4⟩ | ⟨h1, h2⟩
      · exact Or.inl ⟨i + 1, o2, t, h1, by rw [h2]; omega, h3, h4⟩
      · refine Or.inr ⟨?_, h2⟩
        simp only [List.length_cons]
        omega
theorem zsw_lk {a : Int32} {d : Nat} {f : Nat → ZR} {r : ZV × ZS} {pc : Nat} {df : Int} (hd : (pc : Int) + df = (d : Int)) : ∀ (os : List (Int × Int)) (l : List (Int32 × Nat)), zlkok pc os l = true → zsw a d f l = some r →
    ∃ (o : Int) (t : Nat), Op.lookupswitch.offset os df a.toInt = o ∧ (pc : Int) + o = (t : Int) ∧ f t = some r
  | [], [], _, h => ⟨df, d, Op.lookupswitch.offset_nil _ _, hd, h⟩
  | [], _ :: _, h, _ => by cases h
  | _ :: _, [], h, _ => by cases h
  | (k, o) :: os, q :: l, hk, h => by
    unfold zlkok at hk
    simp only [Bool.and_eq_true, decide_eq_true_eq] at hk
    obtain ⟨k1, k2, k3⟩ := hk
    unfold zsw at h
    by_cases hz : a = q.1
    · rw [if_pos hz] at h
      refine ⟨o, q.2, ?_, k2, h⟩
      rw [Op.lookupswitch.offset_cons, if_pos (by rw [hz, k1])]
    · rw [if_neg hz] at h
      obtain ⟨o2, t, h1, h2, h3⟩ := zsw_lk hd os l k3 h
      exact ⟨o2, t, by rw [lv_osw hz k1]; exact h1, h2, h3⟩
theorem zaload (hx : p.tables.exec = Jvm.exec) (hb : c.code = zbt mi) {i pc : Nat} {w : Value} {rest : List Value} {H : Heap} {locs : List Loc} {la : Array Slot} (hd : decode (zbt mi) pc = .ok (.aload i, 2)) (hl : la[i]? = some (.val w)) (hw : w = .null ∨ ∃ a, w = .ref a) (k : W p l e R s m args below meth c H locs cells slots Q (F0 m (pc + 2) la (w :: rest))) : W p l e R s m args below meth c H locs cells slots Q (F0 m pc la rest) := by
  rcases hw with rfl | ⟨a, rfl⟩
  · exact lv_aloadN hx hb hd hl k
  · exact lv_aload hx hb hd hl k
theorem zaload_n (hx : p.tables.exec = Jvm.exec) (hb : c.code = zbt mi) {k0 : Fin 4} {i pc : Nat} {w : Value} {rest : List Value} {H : Heap} {locs : List Loc} {la : Array Slot} (hd : decode (zbt mi) pc = .ok (.aload_n k0, 1)) (hi : (k0 : Nat) = i) (hl : la[i]? = some (.val w)) (hw : w = .null ∨ ∃ a, w = .ref a) (k : W p l e R s m args below meth c H locs cells slots Q (F0 m (pc + 1) la (w :: rest))) : W p l e R s m args below meth c H locs cells slots Q (F0 m pc la rest) := by
  rcases hw with rfl | ⟨a, rfl⟩
  · exact lv_aload_nN hx hb hd hi hl k
  · exact lv_aload_n hx hb hd hi hl k
theorem zron_ge {n : ZN} (h : zron n) : 4 ≤ n.1 := by
  rcases h with rfl | rfl | ⟨e, -⟩ | e
  · decide
  · decide
  · omega
  · omega
theorem zft_i {k : Nat} {v : Int32} {o : ZR} {r : ZV × ZS} (h : zft k v o = some r) : (k = 0 ∨ (v = 0 ∨ v = 1)) ∧ o = some r := by
  cases k with
  | zero => exact ⟨Or.inl rfl, h⟩
  | succ k =>
    obtain ⟨h1, h2⟩ := zbb_i h
    exact ⟨Or.inr h1, h2⟩
theorem zfl_at {σ : ZS} {n : ZN} {q k : Nat} (hk : k < zfn q) (ht : ∀ t, zrf n.1 n.2.1 n.2.2 k = some t → t.1 < 7) : (zfl ad σ n q)[k]? = some (zcv ad fv (zfv σ n k)) := by
  unfold zfl zfv
  rw [List.getElem?_map, List.getElem?_range hk]
  cases hz : zrf n.1 n.2.1 n.2.2 k with
  | none => simp only [Option.map_some, hz]; rfl
  | some t => simp only [Option.map_some, hz]; rw [zcv_A (ht t hz)]
theorem zfl_up {σ : ZS} {n : ZN} {q k : Nat} {v : Int32} (hk : k < zfn q) (hrf : zrf n.1 n.2.1 n.2.2 k = none) : zfl ad (zup σ n.1 n.2.1 n.2.2 k v) n q = (zfl ad σ n q).set k (.int v) := by
  refine List.ext_getElem? fun j => ?_
  unfold zfl
  by_cases hj : j = k
  · subst hj
    rw [List.getElem?_set_self (by simpa using hk), List.getElem?_map, List.getElem?_range hk]
    simp only [Option.map_some, hrf]
    simp [zup]
  · rw [List.getElem?_set_ne (Ne.symm hj), List.getElem?_map, List.getElem?_map]
    cases hr : (List.range (zfn q))[j]? with
    | none => rfl
    | some i =>
      have hi : i = j := by
        obtain ⟨h1, h2⟩ := List.getElem?_eq_some_iff.mp hr
        rw [← h2, List.getElem_range]
      subst hi
      simp only [Option.map_some]
      cases zrf n.1 n.2.1 n.2.2 i with
      | some t => rfl
      | none => simp [zup, hj]
theorem zupd {σ : ZS} {n : ZN} {i : Nat} {v : Int32} : (fun k => zup σ n.1 n.2.1 n.2.2 i v n.1 n.2.1 n.2.2 k) = upd (fun k => σ n.1 n.2.1 n.2.2 k) i v := by
  funext k
  by_cases hk : k = i
  · simp [zup, upd, hk]
  · simp [zup, upd, hk]
theorem zcpyd {σ : ZS} {n a : ZN} {i : Nat} : (fun k => zcpy σ a.1 a.2.1 a.2.2 n.1 n.2.1 n.2.2 i n.1 n.2.1 n.2.2 k) = va_cpy (fun k => σ a.1 a.2.1 a.2.2 k) (fun k => σ n.1 n.2.1 n.2.2 k) (0 : Int32).toNatClampNeg (0 : Int32).toNatClampNeg i := by
  have h0 : (0 : Int32).toNatClampNeg = 0 := by decide
  rw [h0]
  funext k
  by_cases hk : k < i
  · simp [zcpy, va_cpy, hk]
  · simp [zcpy, va_cpy, hk]
theorem zcall_ok_i {idx st : Nat} {x : ZX} (h : zcall_ok mi idx x st = true) : x.1 < 215 ∧ x.1 ≠ 206 ∧ znl0 x = znl x.1 ∧ zkd (zrtt x.1) x.2.2.1 = true ∧ (zplain mi = true → zplain x.1 = true) := by
  unfold zcall_ok at h
  simp only [Bool.and_eq_true, Nat.ble_eq, Nat.beq_eq, List.any_eq_true] at h
  obtain ⟨⟨f, hfm, e1, e2, e3, e4⟩, -, h1, -, -, h2, h3⟩ := h
  obtain ⟨-, hk, h6⟩ := zML_desc f hfm
  rw [e3] at hk h6
  refine ⟨hk, h6, h2, h1, fun hp => ?_⟩
  rw [hp] at h3
  exact h3
theorem zvs_u {k : Nat} {v : ZV} {q : List ZV} (hk : k = 0 ∨ (k = 1 ∧ ∃ x, v = .inl x) ∨ (k = 2 ∧ ∃ x, v = .inr (.inl x))) (h : zvs nms ro q) : zvs nms ro (zpu (zkv k v) q) := by
  rcases hk with rfl | ⟨rfl, x, rfl⟩ | ⟨rfl, x, rfl⟩
  · exact h
  · exact zvs_i h
  · exact zvs_j h
theorem zan_eq {rt : Option FieldType} {k : Nat} {v : ZV} {q : List ZV} (h : zkd rt k = true) : (zan ad fv rt v).toList ++ q.map (zcv ad fv) = (zpu (zkv k v) q).map (zcv ad fv) := by
  unfold zkd at h
  split at h
  · rfl
  · rfl
  · rfl
  · rfl
  · rfl
  · rfl
  · cases h

theorem zstep (hf : fv.category = 1) (hfv : fv = .null ∨ ∃ a, fv = .ref a) (hw : zwf ad nms A) (hpl : ro = true ∨ zplain mi = true) (hc : zCtx p R s m args c cells slots dC dI cA ad fv A ro ρ mi)
    {C : Nat → List ZV → ZS → ZR} (hC : ∀ k as σ1 v σ2, C k as σ1 = some (v, σ2) → k < 215 → k ≠ 206 → (ro = true ∨ zplain k = true) → zsum as ≤ znl k → zvs nms ro as → zre ρ σ1 → zMet l dC dI cA ad fv nms A ro ρ k as σ1 v σ2)
    {K : Nat → ZL → List ZV → ZS → ZR} {r : ZV × ZS} (hK : ∀ pc ls st σ, K pc ls st σ = some r → zvl nms ro ls → zvs nms ro st → zre ρ σ → zAW p l e R s m args below meth c cells slots Q dC dI cA ad fv nms A mi pc ls st σ)
    (hRi : ∀ (v : Int32) (ty : FieldType) (σ : ZS) (pc : Nat) (H : Heap) (locs : List Loc) (la : Array Slot), r = (.inl v, σ) → zrtt mi = some ty → narrow ty (.int v) = .int v → decode (zbt mi) pc = .ok (.ireturn, 1) → va_P (dC, dI) vwCl (zws cA ad nms σ) H → va_S A s.heap H locs → zre ρ σ → W p l e R s m args below meth c H locs cells slots Q (F0 m pc la [.int v]))
    (hRl : ∀ (v : Int64) (σ : ZS) (pc : Nat) (H : Heap) (locs : List Loc) (la : Array Slot), r = (.inr (.inl v), σ) → zrtt mi = some .long → decode (zbt mi) pc = .ok (.lreturn, 1) → va_P (dC, dI) vwCl (zws cA ad nms σ) H → va_S A s.heap H locs → zre ρ σ → W p l e R s m args below meth c H locs cells slots Q (F0 m pc la [.long v]))
    (hRv : ∀ (σ : ZS) (pc : Nat) (H : Heap) (locs : List Loc) (la : Array Slot), r = (.inl 0, σ) → zrtt mi = none → decode (zbt mi) pc = .ok (.return_, 1) → va_P (dC, dI) vwCl (zws cA ad nms σ) H → va_S A s.heap H locs → zre ρ σ → W p l e R s m args below meth c H locs cells slots Q (F0 m pc la []))
    {i : Instr} {nx pc : Nat} {x : ZX} {ls : ZL} {st : List ZV} {σ : ZS} (hd : decode (zbt mi) pc = .ok (i, zdl i nx pc)) (hnx : nx = pc + zdl i nx pc) (hax : zaxok mi pc i x = true) (h : zsem C i nx x ls st σ K = some r) (hvl : zvl nms ro ls) (hvs : zvs nms ro st) (hre : zre ρ σ) : zAW p l e R s m args below meth c cells slots Q dC dI cA ad fv nms A mi pc ls st σ := by
  have hc0 := hc
  obtain ⟨hx, hb, hml, hown, hts, hfr, hlo, hce, hsl, hK0, hro⟩ := hc
  cases i with
  | iconst n =>
    have hnx : nx = pc + 1 := hnx
    subst hnx
    have h2 := hK _ _ _ _ h hvl (zvs_i hvs) hre
    exact fun H locs la hP hS hl => lv_iconst hx hb hd (of_decide_eq_true hax) (h2 H locs la hP hS hl)
  | bipush n =>
    have hnx : nx = pc + 2 := hnx
    subst hnx
    have h2 := hK _ _ _ _ h hvl (zvs_i hvs) hre
    exact fun H locs la hP hS hl => lv_bipush hx hb hd (of_decide_eq_true hax) (h2 H locs la hP hS hl)
  | sipush n =>
    have hnx : nx = pc + 3 := hnx
    subst hnx
    have h2 := hK _ _ _ _ h hvl (zvs_i hvs) hre
    exact fun H locs la hP hS hl => lv_sipush hx hb hd (of_decide_eq_true hax) (h2 H locs la hP hS hl)
  | lconst n =>
    have hnx : nx = pc + 1 := hnx
    subst hnx
    have h2 := hK _ _ _ _ h hvl (zvs_j hvs) hre
    exact fun H locs la hP hS hl => lv_lconst hx hb hd (of_decide_eq_true hax) (h2 H locs la hP hS hl)
  | ldc_w idx =>
    have hnx : nx = pc + 3 := hnx
    subst hnx
    obtain ⟨f, hf1, hf2⟩ := List.any_eq_true.mp hax
    simp only [Bool.and_eq_true, Nat.beq_eq, decide_eq_true_eq] at hf2
    obtain ⟨f1, f2, f3⟩ := hf2
    obtain ⟨o1, o2⟩ := zCI_ok f hf1
    rw [f1, f2, f3] at o1 o2
    have h2 := hK _ _ _ _ h hvl (zvs_i hvs) hre
    exact fun H locs la hP hS hl => lv_ldcw hx hb hown (hts _ (zTBm o1 o2)) hd (h2 H locs la hP hS hl)
  | ldc2_w idx =>
    have hnx : nx = pc + 3 := hnx
    subst hnx
    obtain ⟨f, hf1, hf2⟩ := List.any_eq_true.mp hax
    simp only [Bool.and_eq_true, Nat.beq_eq, decide_eq_true_eq] at hf2
    obtain ⟨f1, f2, f3⟩ := hf2
    obtain ⟨o1, o2⟩ := zCJ_ok f hf1
    rw [f1, f2, f3] at o1 o2
    have h2 := hK _ _ _ _ h hvl (zvs_j hvs) hre
    exact fun H locs la hP hS hl => lv_ldc2 hx hb hown (hts _ (zTBm o1 o2)) hd (h2 H locs la hP hS hl)
  | ldc idx =>
    have hnx : nx = pc + 2 := hnx
    subst hnx
    have h : K (pc + 2) ls (zlv x :: st) σ = some r := h
    have hax : (match x.2.1 with
    | 0 => zCI.any fun f => Nat.beq f.1 (zow mi) && (Nat.beq f.2.1 idx && decide (f.2.2.1 = x.2.2.2.1))
    | _ => Nat.beq (zow mi) 2 && (Nat.beq idx (zSX x.1) && (Nat.blt x.1 7 && !zplain mi))) = true := hax
    unfold zlv at h
    cases hz : x.2.1 with
    | zero =>
      rw [hz] at h hax
      obtain ⟨f, hf1, hf2⟩ := List.any_eq_true.mp hax
      simp only [Bool.and_eq_true, Nat.beq_eq, decide_eq_true_eq] at hf2
      obtain ⟨f1, f2, f3⟩ := hf2
      obtain ⟨o1, o2⟩ := zCI_ok f hf1
      rw [f1, f2, f3] at o1 o2
      have h2 := hK _ _ _ _ h hvl (zvs_i hvs) hre
      exact fun H locs la hP hS hl => lv_ldc hx hb hown (hts _ (zTBm o1 o2)) hd (h2 H locs la hP hS hl)
    | succ z =>
      rw [hz] at h hax
      simp only [Bool.and_eq_true, Nat.beq_eq, Nat.blt_eq, Bool.not_eq_true'] at hax
      obtain ⟨a1, a2, a3, a4⟩ := hax
      have hr : ro = true := hpl.resolve_right (by rw [a4]; exact fun z => by cases z)
      have hown2 : s.vm.findClass "SeatCast$Reader" = some m.cls := by
        rw [a1] at hown
        exact hown
      have hrt : zvd nms ro (zA 6 x.1 0) := Or.inr ⟨hr, Or.inr (Or.inr (Or.inl ⟨rfl, a3, Or.inl rfl⟩))⟩
      have h2 := hK _ _ _ _ h hvl (zvs_p hrt hvs) hre
      have hZ := ((hro hr).2.2.1 x.1 a3).2.2.2.2.2
      rw [← a2] at hZ
      exact fun H locs la hP hS hl => va_ldcS hx hb hown2 hZ hd (h2 H locs la hP hS hl)
  | iload k =>
    have hnx : nx = pc + 2 := hnx
    subst hnx
    obtain ⟨v, hg, h⟩ := zgI_i h
    have hk : k = x.1 := Nat.eq_of_beq_eq_true hax
    obtain ⟨q, hq⟩ := zget_at (ad := ad) (fv := fv) hg
    have h2 := hK _ _ _ _ h hvl (zvs_i hvs) hre
    refine fun H locs la hP hS hl => ?_
    subst hk
    exact lv_iload hx hb hd (show la[x.1]? = some (.val (zcv ad fv (.inl v))) from lv_at hl q hq) (h2 H locs la hP hS hl)
  | iload_n k =>
    have hnx : nx = pc + 1 := hnx
    subst hnx
    obtain ⟨v, hg, h⟩ := zgI_i h
    have hk : k.val = x.1 := Nat.eq_of_beq_eq_true hax
    obtain ⟨q, hq⟩ := zget_at (ad := ad) (fv := fv) hg
    have h2 := hK _ _ _ _ h hvl (zvs_i hvs) hre
    refine fun H locs la hP hS hl => ?_
    exact lv_iload_n hx hb hd hk (show la[x.1]? = some (.val (zcv ad fv (.inl v))) from lv_at hl q hq) (h2 H locs la hP hS hl)
  | lload k =>
    have hnx : nx = pc + 2 := hnx
    subst hnx
    obtain ⟨v, hg, h⟩ := zgJ_i h
    have hk : k = x.1 := Nat.eq_of_beq_eq_true hax
    obtain ⟨q, hq⟩ := zget_at (ad := ad) (fv := fv) hg
    have h2 := hK _ _ _ _ h hvl (zvs_j hvs) hre
    refine fun H locs la hP hS hl => ?_
    subst hk
    exact lv_lload hx hb hd (show la[x.1]? = some (.val (zcv ad fv (.inr (.inl v)))) from lv_at hl q hq) (h2 H locs la hP hS hl)
  | lload_n k =>
    have hnx : nx = pc + 1 := hnx
    subst hnx
    obtain ⟨v, hg, h⟩ := zgJ_i h
    have hk : k.val = x.1 := Nat.eq_of_beq_eq_true hax
    obtain ⟨q, hq⟩ := zget_at (ad := ad) (fv := fv) hg
    have h2 := hK _ _ _ _ h hvl (zvs_j hvs) hre
    refine fun H locs la hP hS hl => ?_
    exact lv_lload_n hx hb hd hk (show la[x.1]? = some (.val (zcv ad fv (.inr (.inl v)))) from lv_at hl q hq) (h2 H locs la hP hS hl)
  | aload k =>
    have hnx : nx = pc + 2 := hnx
    subst hnx
    obtain ⟨v, hg, h⟩ := zgA_i h
    have hk : k = x.1 := Nat.eq_of_beq_eq_true hax
    obtain ⟨q, hq⟩ := zget_at (ad := ad) (fv := fv) hg
    have h2 := hK _ _ _ _ h hvl (zvs_p (zvl_g hg hvl) hvs) hre
    refine fun H locs la hP hS hl => ?_
    subst hk
    exact zaload hx hb hd (lv_at hl q hq) (zcv_ref hfv v) (h2 H locs la hP hS hl)
  | aload_n k =>
    have hnx : nx = pc + 1 := hnx
    subst hnx
    obtain ⟨v, hg, h⟩ := zgA_i h
    have hk : k.val = x.1 := Nat.eq_of_beq_eq_true hax
    obtain ⟨q, hq⟩ := zget_at (ad := ad) (fv := fv) hg
    have h2 := hK _ _ _ _ h hvl (zvs_p (zvl_g hg hvl) hvs) hre
    refine fun H locs la hP hS hl => ?_
    exact zaload_n hx hb hd hk (lv_at hl q hq) (zcv_ref hfv v) (h2 H locs la hP hS hl)
  | istore k =>
    have hnx : nx = pc + 2 := hnx
    subst hnx
    obtain ⟨v, q, rfl, h⟩ := zpI_i h
    have hax2 := hax
    simp only [zaxok, Bool.and_eq_true, Nat.beq_eq, Nat.blt_eq] at hax2
    obtain ⟨hk, hkn⟩ := hax2
    have h2 := hK _ _ _ _ h (zvl_s1 trivial hvl) (zvs_t hvs) hre
    refine fun H locs la hP hS hl => ?_
    have h2 := h2 H locs
    subst hk
    exact lv_istore (rest := q.map (zcv ad fv)) (lv' := zlc ad fv ((x.1, .inl v) :: zdrop1 ls x.1)) hx hb hd hl (by omega) (by show _ = _ :: zlc ad fv (zdrop1 ls x.1); rw [zdrop1_c hf]; rfl) (fun la hl => h2 la hP hS hl)
  | istore_n k =>
    have hnx : nx = pc + 1 := hnx
    subst hnx
    obtain ⟨v, q, rfl, h⟩ := zpI_i h
    have hax2 := hax
    simp only [zaxok, Bool.and_eq_true, Nat.beq_eq, Nat.blt_eq] at hax2
    obtain ⟨hk, hkn⟩ := hax2
    have h2 := hK _ _ _ _ h (zvl_s1 trivial hvl) (zvs_t hvs) hre
    refine fun H locs la hP hS hl => ?_
    have h2 := h2 H locs
    exact lv_istore_n (rest := q.map (zcv ad fv)) (lv' := zlc ad fv ((x.1, .inl v) :: zdrop1 ls x.1)) hx hb hd hk hl (by omega) (by show _ = _ :: zlc ad fv (zdrop1 ls x.1); rw [zdrop1_c hf]; rfl) (fun la hl => h2 la hP hS hl)
  | lstore k =>
    have hnx : nx = pc + 2 := hnx
    subst hnx
    obtain ⟨v, q, rfl, h⟩ := zpJ_i h
    have hax2 := hax
    simp only [zaxok, Bool.and_eq_true, Nat.beq_eq, Nat.blt_eq] at hax2
    obtain ⟨hk, hkn⟩ := hax2
    have h2 := hK _ _ _ _ h (zvl_s2 trivial hvl) (zvs_t hvs) hre
    refine fun H locs la hP hS hl => ?_
    have h2 := h2 H locs
    subst hk
    exact lv_lstore (rest := q.map (zcv ad fv)) (lv' := zlc ad fv ((x.1, .inr (.inl v)) :: zdrop2 ls x.1)) hx hb hd hl (by omega) (by show _ = _ :: zlc ad fv (zdrop2 ls x.1); rw [zdrop2_c hf]; rfl) (fun la hl => h2 la hP hS hl)
  | lstore_n k =>
    have hnx : nx = pc + 1 := hnx
    subst hnx
    obtain ⟨v, q, rfl, h⟩ := zpJ_i h
    have hax2 := hax
    simp only [zaxok, Bool.and_eq_true, Nat.beq_eq, Nat.blt_eq] at hax2
    obtain ⟨hk, hkn⟩ := hax2
    have h2 := hK _ _ _ _ h (zvl_s2 trivial hvl) (zvs_t hvs) hre
    refine fun H locs la hP hS hl => ?_
    have h2 := h2 H locs
    exact lv_lstore_n (rest := q.map (zcv ad fv)) (lv' := zlc ad fv ((x.1, .inr (.inl v)) :: zdrop2 ls x.1)) hx hb hd hk hl (by omega) (by show _ = _ :: zlc ad fv (zdrop2 ls x.1); rw [zdrop2_c hf]; rfl) (fun la hl => h2 la hP hS hl)
  | astore k =>
    have hnx : nx = pc + 2 := hnx
    subst hnx
    obtain ⟨v, q, rfl, h⟩ := zpA_i h
    have hax2 := hax
    simp only [zaxok, Bool.and_eq_true, Nat.beq_eq, Nat.blt_eq] at hax2
    obtain ⟨hk, hkn⟩ := hax2
    obtain ⟨h7, h⟩ := ztr_i h
    rw [Nat.blt_eq] at h7
    have h2 := hK _ _ _ _ h (zvl_s1 (zvs_h hvs) hvl) (zvs_t hvs) hre
    refine fun H locs la hP hS hl => ?_
    show W p l e R s m args below meth c H locs cells slots Q (F0 m pc la (zcv ad fv (.inr (.inr v)) :: q.map (zcv ad fv)))
    have h2 := h2 H locs
    rw [zcv_A h7]
    subst hk
    exact lv_astore (rest := q.map (zcv ad fv)) (lv' := zlc ad fv ((x.1, .inr (.inr v)) :: zdrop1 ls x.1)) hx hb hd hl (by omega) (by show _ = (x.1, zcv ad fv (.inr (.inr v))) :: zlc ad fv (zdrop1 ls x.1); rw [zdrop1_c hf, zcv_A h7]) (fun la hl => h2 la hP hS hl)
  | astore_n k =>
    have hnx : nx = pc + 1 := hnx
    subst hnx
    obtain ⟨v, q, rfl, h⟩ := zpA_i h
    have hax2 := hax
    simp only [zaxok, Bool.and_eq_true, Nat.beq_eq, Nat.blt_eq] at hax2
    obtain ⟨hk, hkn⟩ := hax2
    obtain ⟨h7, h⟩ := ztr_i h
    rw [Nat.blt_eq] at h7
    have h2 := hK _ _ _ _ h (zvl_s1 (zvs_h hvs) hvl) (zvs_t hvs) hre
    refine fun H locs la hP hS hl => ?_
    show W p l e R s m args below meth c H locs cells slots Q (F0 m pc la (zcv ad fv (.inr (.inr v)) :: q.map (zcv ad fv)))
    have h2 := h2 H locs
    rw [zcv_A h7]
    exact lv_astore_n (rest := q.map (zcv ad fv)) (lv' := zlc ad fv ((x.1, .inr (.inr v)) :: zdrop1 ls x.1)) hx hb hd hk hl (by omega) (by show _ = (x.1, zcv ad fv (.inr (.inr v))) :: zlc ad fv (zdrop1 ls x.1); rw [zdrop1_c hf, zcv_A h7]) (fun la hl => h2 la hP hS hl)
  | iinc k n =>
    have hnx : nx = pc + 3 := hnx
    subst hnx
    obtain ⟨v, hg, h'⟩ := zgI_i h
    have hax2 := hax
    simp only [zaxok, Bool.and_eq_true, Nat.beq_eq, Nat.blt_eq, decide_eq_true_eq] at hax2
    obtain ⟨hk, hkn, hv⟩ := hax2
    obtain ⟨q, hq⟩ := zget_at (ad := ad) (fv := fv) hg
    have h2 := hK _ _ _ _ h' (zvl_s1 trivial hvl) hvs hre
    subst hk
    exact fun H locs la hP hS hl => lv_iinc (v := v + x.2.2.2.1) (lv' := zlc ad fv ((x.1, .inl (v + x.2.2.2.1)) :: zdrop1 ls x.1)) hx hb hd hl (k := q) hq (by rw [hv]) hkn (by show _ = _ :: zlc ad fv (zdrop1 ls x.1); rw [zdrop1_c hf]; rfl) (fun la hl => h2 H locs la hP hS hl)
  | pop =>
    have hnx : nx = pc + 1 := hnx
    subst hnx
    obtain ⟨v, q, rfl, h⟩ := zpI_i h
    have h2 := hK _ _ _ _ h hvl (zvs_t hvs) hre
    exact fun H locs la hP hS hl => lv_pop hx hb hd rfl (h2 H locs la hP hS hl)
  | dup =>
    have hnx : nx = pc + 1 := hnx
    subst hnx
    obtain ⟨v, q, rfl, hv, h⟩ := zp1_i h
    have h2 := hK _ _ _ _ h hvl (zvs_p (zvs_h hvs) hvs) hre
    exact fun H locs la hP hS hl => lv_dup hx hb hd (by rw [zcv_cat hf, hv]) (h2 H locs la hP hS hl)
  | dup2 =>
    have hnx : nx = pc + 1 := hnx
    subst hnx
    obtain ⟨v, q, rfl, hv, h⟩ := zp1_i h
    obtain ⟨w, q, rfl, hw2, h⟩ := zp1_i h
    have h2 := hK _ _ _ _ h hvl (zvs_p (zvs_h hvs) (zvs_p (zvs_h (zvs_t hvs)) hvs)) hre
    exact fun H locs la hP hS hl => lv_dup2_11 hx hb hd (by rw [zcv_cat hf, hv]) (by rw [zcv_cat hf, hw2]) (h2 H locs la hP hS hl)
  | iadd =>
    have hnx : nx = pc + 1 := hnx
    subst hnx
    obtain ⟨b, q, rfl, h⟩ := zpI_i h
    obtain ⟨a, q, rfl, h⟩ := zpI_i h
    have h2 := hK _ _ _ _ h hvl (zvs_i (zvs_t (zvs_t hvs))) hre
    exact fun H locs la hP hS hl => lv_iadd hx hb hd (h2 H locs la hP hS hl)
  | isub =>
    have hnx : nx = pc + 1 := hnx
    subst hnx
    obtain ⟨b, q, rfl, h⟩ := zpI_i h
    obtain ⟨a, q, rfl, h⟩ := zpI_i h
    have h2 := hK _ _ _ _ h hvl (zvs_i (zvs_t (zvs_t hvs))) hre
    exact fun H locs la hP hS hl => lv_isub hx hb hd (h2 H locs la hP hS hl)
  | imul =>
    have hnx : nx = pc + 1 := hnx
    subst hnx
    obtain ⟨b, q, rfl, h⟩ := zpI_i h
    obtain ⟨a, q, rfl, h⟩ := zpI_i h
    have h2 := hK _ _ _ _ h hvl (zvs_i (zvs_t (zvs_t hvs))) hre
    exact fun H locs la hP hS hl => lv_imul hx hb hd (h2 H locs la hP hS hl)
  | iand =>
    have hnx : nx = pc + 1 := hnx
    subst hnx
    obtain ⟨b, q, rfl, h⟩ := zpI_i h
    obtain ⟨a, q, rfl, h⟩ := zpI_i h
    have h2 := hK _ _ _ _ h hvl (zvs_i (zvs_t (zvs_t hvs))) hre
    exact fun H locs la hP hS hl => lv_iand hx hb hd (h2 H locs la hP hS hl)
  | ior =>
    have hnx : nx = pc + 1 := hnx
    subst hnx
    obtain ⟨b, q, rfl, h⟩ := zpI_i h
    obtain ⟨a, q, rfl, h⟩ := zpI_i h
    have h2 := hK _ _ _ _ h hvl (zvs_i (zvs_t (zvs_t hvs))) hre
    exact fun H locs la hP hS hl => lv_ior hx hb hd (h2 H locs la hP hS hl)
  | ixor =>
    have hnx : nx = pc + 1 := hnx
    subst hnx
    obtain ⟨b, q, rfl, h⟩ := zpI_i h
    obtain ⟨a, q, rfl, h⟩ := zpI_i h
    have h2 := hK _ _ _ _ h hvl (zvs_i (zvs_t (zvs_t hvs))) hre
    exact fun H locs la hP hS hl => lv_ixor hx hb hd (h2 H locs la hP hS hl)
  | ishl =>
    have hnx : nx = pc + 1 := hnx
    subst hnx
    obtain ⟨b, q, rfl, h⟩ := zpI_i h
    obtain ⟨a, q, rfl, h⟩ := zpI_i h
    have h2 := hK _ _ _ _ h hvl (zvs_i (zvs_t (zvs_t hvs))) hre
    exact fun H locs la hP hS hl => lv_ishl hx hb hd (h2 H locs la hP hS hl)
  | ishr =>
    have hnx : nx = pc + 1 := hnx
    subst hnx
    obtain ⟨b, q, rfl, h⟩ := zpI_i h
    obtain ⟨a, q, rfl, h⟩ := zpI_i h
    have h2 := hK _ _ _ _ h hvl (zvs_i (zvs_t (zvs_t hvs))) hre
    exact fun H locs la hP hS hl => lv_ishr hx hb hd (h2 H locs la hP hS hl)
  | iushr =>
    have hnx : nx = pc + 1 := hnx
    subst hnx
    obtain ⟨b, q, rfl, h⟩ := zpI_i h
    obtain ⟨a, q, rfl, h⟩ := zpI_i h
    have h2 := hK _ _ _ _ h hvl (zvs_i (zvs_t (zvs_t hvs))) hre
    exact fun H locs la hP hS hl => lv_iushr hx hb hd rfl (h2 H locs la hP hS hl)
  | idiv =>
    have hnx : nx = pc + 1 := hnx
    subst hnx
    obtain ⟨b, q, rfl, h⟩ := zpI_i h
    obtain ⟨a, q, rfl, h⟩ := zpI_i h
    obtain ⟨hne, h⟩ := zdv_i h
    have h2 := hK _ _ _ _ h hvl (zvs_i (zvs_t (zvs_t hvs))) hre
    exact fun H locs la hP hS hl => lv_idiv hx hb hd hne (h2 H locs la hP hS hl)
  | irem =>
    have hnx : nx = pc + 1 := hnx
    subst hnx
    obtain ⟨b, q, rfl, h⟩ := zpI_i h
    obtain ⟨a, q, rfl, h⟩ := zpI_i h
    obtain ⟨hne, h⟩ := zdv_i h
    have h2 := hK _ _ _ _ h hvl (zvs_i (zvs_t (zvs_t hvs))) hre
    exact fun H locs la hP hS hl => lv_irem hx hb hd hne (h2 H locs la hP hS hl)
  | ladd =>
    have hnx : nx = pc + 1 := hnx
    subst hnx
    obtain ⟨b, q, rfl, h⟩ := zpJ_i h
    obtain ⟨a, q, rfl, h⟩ := zpJ_i h
    have h2 := hK _ _ _ _ h hvl (zvs_j (zvs_t (zvs_t hvs))) hre
    exact fun H locs la hP hS hl => lv_ladd hx hb hd (h2 H locs la hP hS hl)
  | lmul =>
    have hnx : nx = pc + 1 := hnx
    subst hnx
    obtain ⟨b, q, rfl, h⟩ := zpJ_i h
    obtain ⟨a, q, rfl, h⟩ := zpJ_i h
    have h2 := hK _ _ _ _ h hvl (zvs_j (zvs_t (zvs_t hvs))) hre
    exact fun H locs la hP hS hl => lv_lmul hx hb hd (h2 H locs la hP hS hl)
  | ldiv =>
    have hnx : nx = pc + 1 := hnx
    subst hnx
    obtain ⟨b, q, rfl, h⟩ := zpJ_i h
    obtain ⟨a, q, rfl, h⟩ := zpJ_i h
    obtain ⟨hne, h⟩ := zdvl_i h
    have h2 := hK _ _ _ _ h hvl (zvs_j (zvs_t (zvs_t hvs))) hre
    exact fun H locs la hP hS hl => lv_ldiv hx hb hd hne (h2 H locs la hP hS hl)
  | lrem =>
    have hnx : nx = pc + 1 := hnx
    subst hnx
    obtain ⟨b, q, rfl, h⟩ := zpJ_i h
    obtain ⟨a, q, rfl, h⟩ := zpJ_i h
    obtain ⟨hne, h⟩ := zdvl_i h
    have h2 := hK _ _ _ _ h hvl (zvs_j (zvs_t (zvs_t hvs))) hre
    exact fun H locs la hP hS hl => lv_lrem hx hb hd hne (h2 H locs la hP hS hl)
  | lcmp =>
    have hnx : nx = pc + 1 := hnx
    subst hnx
    obtain ⟨b, q, rfl, h⟩ := zpJ_i h
    obtain ⟨a, q, rfl, h⟩ := zpJ_i h
    have h2 := hK _ _ _ _ h hvl (zvs_i (zvs_t (zvs_t hvs))) hre
    exact fun H locs la hP hS hl => W.lcmp hx hb hd (h2 H locs la hP hS hl)
  | ineg =>
    have hnx : nx = pc + 1 := hnx
    subst hnx
    obtain ⟨a, q, rfl, h⟩ := zpI_i h
    have h2 := hK _ _ _ _ h hvl (zvs_i (zvs_t hvs)) hre
    exact fun H locs la hP hS hl => lv_ineg hx hb hd (h2 H locs la hP hS hl)
  | lneg =>
    have hnx : nx = pc + 1 := hnx
    subst hnx
    obtain ⟨a, q, rfl, h⟩ := zpJ_i h
    have h2 := hK _ _ _ _ h hvl (zvs_j (zvs_t hvs)) hre
    exact fun H locs la hP hS hl => lv_lneg hx hb hd (h2 H locs la hP hS hl)
  | i2l =>
    have hnx : nx = pc + 1 := hnx
    subst hnx
    obtain ⟨a, q, rfl, h⟩ := zpI_i h
    have h2 := hK _ _ _ _ h hvl (zvs_j (zvs_t hvs)) hre
    exact fun H locs la hP hS hl => lv_i2l hx hb hd rfl (h2 H locs la hP hS hl)
  | i2b =>
    have hnx : nx = pc + 1 := hnx
    subst hnx
    obtain ⟨a, q, rfl, h⟩ := zpI_i h
    have h2 := hK _ _ _ _ h hvl (zvs_i (zvs_t hvs)) hre
    exact fun H locs la hP hS hl => lv_i2b hx hb hd rfl (h2 H locs la hP hS hl)
  | i2s =>
    have hnx : nx = pc + 1 := hnx
    subst hnx
    obtain ⟨a, q, rfl, h⟩ := zpI_i h
    have h2 := hK _ _ _ _ h hvl (zvs_i (zvs_t hvs)) hre
    exact fun H locs la hP hS hl => lv_i2s hx hb hd rfl (h2 H locs la hP hS hl)
  | i2c =>
    have hnx : nx = pc + 1 := hnx
    subst hnx
    obtain ⟨a, q, rfl, h⟩ := zpI_i h
    have h2 := hK _ _ _ _ h hvl (zvs_i (zvs_t hvs)) hre
    exact fun H locs la hP hS hl => lv_i2c hx hb hd rfl (h2 H locs la hP hS hl)
  | goto off =>
    have hnx : nx = pc + 3 := hnx
    subst hnx
    have h2 := hK _ _ _ _ h hvl hvs hre
    exact fun H locs la hP hS hl => lv_goto hx hb hd (of_decide_eq_true hax) (h2 H locs la hP hS hl)
  | ifCond cnd off =>
    have hnx : nx = pc + 3 := hnx
    subst hnx
    have ht : (pc : Int) + off = (x.1 : Int) := of_decide_eq_true hax
    cases cnd with
    | eq =>
      obtain ⟨a, q, rfl, h⟩ := zpI_i h
      by_cases hz : a = 0
      · have h := (if_pos hz).symm.trans h
        have h2 := hK _ _ _ _ h hvl (zvs_t hvs) hre
        exact fun H locs la hP hS hl => lv_if_eq hx hb hd ht (fun _ => h2 H locs la hP hS hl) (fun z => absurd hz z)
      · have h := (if_neg hz).symm.trans h
        have h2 := hK _ _ _ _ h hvl (zvs_t hvs) hre
        exact fun H locs la hP hS hl => lv_if_eq hx hb hd ht (fun z => absurd z hz) (fun _ => h2 H locs la hP hS hl)
    | ne =>
      obtain ⟨a, q, rfl, h⟩ := zpI_i h
      by_cases hz : a = 0
      · have h := (if_pos hz).symm.trans h
        have h2 := hK _ _ _ _ h hvl (zvs_t hvs) hre
        exact fun H locs la hP hS hl => lv_if_ne hx hb hd ht (fun z => absurd hz z) (fun _ => h2 H locs la hP hS hl)
      · have h := (if_neg hz).symm.trans h
        have h2 := hK _ _ _ _ h hvl (zvs_t hvs) hre
        exact fun H locs la hP hS hl => lv_if_ne hx hb hd ht (fun _ => h2 H locs la hP hS hl) (fun z => absurd z hz)
    | lt =>
      obtain ⟨a, q, rfl, h⟩ := zpI_i h
      by_cases hz : a < 0
      · have h := (if_pos hz).symm.trans h
        have h2 := hK _ _ _ _ h hvl (zvs_t hvs) hre
        exact fun H locs la hP hS hl => lv_if_lt hx hb hd ht (fun _ => h2 H locs la hP hS hl) (fun z => absurd hz z)
      · have h := (if_neg hz).symm.trans h
        have h2 := hK _ _ _ _ h hvl (zvs_t hvs) hre
        exact fun H locs la hP hS hl => lv_if_lt hx hb hd ht (fun z => absurd z hz) (fun _ => h2 H locs la hP hS hl)
    | ge =>
      obtain ⟨a, q, rfl, h⟩ := zpI_i h
      by_cases hz : a < 0
      · have h := (if_pos hz).symm.trans h
        have h2 := hK _ _ _ _ h hvl (zvs_t hvs) hre
        exact fun H locs la hP hS hl => lv_if_ge hx hb hd ht (fun z => absurd hz (Int32.not_lt.mpr z)) (fun _ => h2 H locs la hP hS hl)
      · have h := (if_neg hz).symm.trans h
        have h2 := hK _ _ _ _ h hvl (zvs_t hvs) hre
        exact fun H locs la hP hS hl => lv_if_ge hx hb hd ht (fun _ => h2 H locs la hP hS hl) (fun z => absurd (Int32.not_lt.mp hz) z)
    | gt =>
      obtain ⟨a, q, rfl, h⟩ := zpI_i h
      by_cases hz : 0 < a
      · have h := (if_pos hz).symm.trans h
        have h2 := hK _ _ _ _ h hvl (zvs_t hvs) hre
        exact fun H locs la hP hS hl => lv_if_gt hx hb hd ht (fun _ => h2 H locs la hP hS hl) (fun z => absurd hz z)
      · have h := (if_neg hz).symm.trans h
        have h2 := hK _ _ _ _ h hvl (zvs_t hvs) hre
        exact fun H locs la hP hS hl => lv_if_gt hx hb hd ht (fun z => absurd z hz) (fun _ => h2 H locs la hP hS hl)
    | le =>
      obtain ⟨a, q, rfl, h⟩ := zpI_i h
      by_cases hz : 0 < a
      · have h := (if_pos hz).symm.trans h
        have h2 := hK _ _ _ _ h hvl (zvs_t hvs) hre
        exact fun H locs la hP hS hl => lv_if_le hx hb hd ht (fun z => absurd hz (Int32.not_lt.mpr z)) (fun _ => h2 H locs la hP hS hl)
      · have h := (if_neg hz).symm.trans h
        have h2 := hK _ _ _ _ h hvl (zvs_t hvs) hre
        exact fun H locs la hP hS hl => lv_if_le hx hb hd ht (fun _ => h2 H locs la hP hS hl) (fun z => absurd (Int32.not_lt.mp hz) z)
  | if_icmp cnd off =>
    have hnx : nx = pc + 3 := hnx
    subst hnx
    have ht : (pc : Int) + off = (x.1 : Int) := of_decide_eq_true hax
    cases cnd with
    | eq =>
      obtain ⟨b, q, rfl, h⟩ := zpI_i h
      obtain ⟨a, q, rfl, h⟩ := zpI_i h
      by_cases hz : a = b
      · have h := (if_pos hz).symm.trans h
        have h2 := hK _ _ _ _ h hvl (zvs_t (zvs_t hvs)) hre
        exact fun H locs la hP hS hl => lv_icmp_eq hx hb hd ht (fun _ => h2 H locs la hP hS hl) (fun z => absurd hz z)
      · have h := (if_neg hz).symm.trans h
        have h2 := hK _ _ _ _ h hvl (zvs_t (zvs_t hvs)) hre
        exact fun H locs la hP hS hl => lv_icmp_eq hx hb hd ht (fun z => absurd z hz) (fun _ => h2 H locs la hP hS hl)
    | ne =>
      obtain ⟨b, q, rfl, h⟩ := zpI_i h
      obtain ⟨a, q, rfl, h⟩ := zpI_i h
      by_cases hz : a = b
      · have h := (if_pos hz).symm.trans h
        have h2 := hK _ _ _ _ h hvl (zvs_t (zvs_t hvs)) hre
        exact fun H locs la hP hS hl => lv_icmp_ne hx hb hd ht (fun z => absurd hz z) (fun _ => h2 H locs la hP hS hl)
      · have h := (if_neg hz).symm.trans h
        have h2 := hK _ _ _ _ h hvl (zvs_t (zvs_t hvs)) hre
        exact fun H locs la hP hS hl => lv_icmp_ne hx hb hd ht (fun _ => h2 H locs la hP hS hl) (fun z => absurd z hz)
    | lt =>
      obtain ⟨b, q, rfl, h⟩ := zpI_i h
      obtain ⟨a, q, rfl, h⟩ := zpI_i h
      by_cases hz : a < b
      · have h := (if_pos hz).symm.trans h
        have h2 := hK _ _ _ _ h hvl (zvs_t (zvs_t hvs)) hre
        exact fun H locs la hP hS hl => lv_icmp_lt hx hb hd ht (fun _ => h2 H locs la hP hS hl) (fun z => absurd hz z)
      · have h := (if_neg hz).symm.trans h
        have h2 := hK _ _ _ _ h hvl (zvs_t (zvs_t hvs)) hre
        exact fun H locs la hP hS hl => lv_icmp_lt hx hb hd ht (fun z => absurd z hz) (fun _ => h2 H locs la hP hS hl)
    | ge =>
      obtain ⟨b, q, rfl, h⟩ := zpI_i h
      obtain ⟨a, q, rfl, h⟩ := zpI_i h
      by_cases hz : a < b
      · have h := (if_pos hz).symm.trans h
        have h2 := hK _ _ _ _ h hvl (zvs_t (zvs_t hvs)) hre
        exact fun H locs la hP hS hl => lv_icmp_ge hx hb hd ht (fun z => absurd hz (Int32.not_lt.mpr z)) (fun _ => h2 H locs la hP hS hl)
      · have h := (if_neg hz).symm.trans h
        have h2 := hK _ _ _ _ h hvl (zvs_t (zvs_t hvs)) hre
        exact fun H locs la hP hS hl => lv_icmp_ge hx hb hd ht (fun _ => h2 H locs la hP hS hl) (fun z => absurd (Int32.not_lt.mp hz) z)
    | gt =>
      obtain ⟨b, q, rfl, h⟩ := zpI_i h
      obtain ⟨a, q, rfl, h⟩ := zpI_i h
      by_cases hz : b < a
      · have h := (if_pos hz).symm.trans h
        have h2 := hK _ _ _ _ h hvl (zvs_t (zvs_t hvs)) hre
        exact fun H locs la hP hS hl => lv_icmp_gt hx hb hd ht (fun _ => h2 H locs la hP hS hl) (fun z => absurd hz z)
      · have h := (if_neg hz).symm.trans h
        have h2 := hK _ _ _ _ h hvl (zvs_t (zvs_t hvs)) hre
        exact fun H locs la hP hS hl => lv_icmp_gt hx hb hd ht (fun z => absurd z hz) (fun _ => h2 H locs la hP hS hl)
    | le =>
      obtain ⟨b, q, rfl, h⟩ := zpI_i h
      obtain ⟨a, q, rfl, h⟩ := zpI_i h
      by_cases hz : b < a
      · have h := (if_pos hz).symm.trans h
        have h2 := hK _ _ _ _ h hvl (zvs_t (zvs_t hvs)) hre
        exact fun H locs la hP hS hl => lv_icmp_le hx hb hd ht (fun z => absurd hz (Int32.not_lt.mpr z)) (fun _ => h2 H locs la hP hS hl)
      · have h := (if_neg hz).symm.trans h
        have h2 := hK _ _ _ _ h hvl (zvs_t (zvs_t hvs)) hre
        exact fun H locs la hP hS hl => lv_icmp_le hx hb hd ht (fun _ => h2 H locs la hP hS hl) (fun z => absurd (Int32.not_lt.mp hz) z)
  | tableswitch d lo hi offs =>
    obtain ⟨a, q, rfl, h⟩ := zpI_i h
    simp only [zaxok, Bool.and_eq_true, decide_eq_true_eq] at hax
    obtain ⟨hd0, hhi, htab⟩ := hax
    rcases zsw_tab _ _ _ htab h with ⟨i, o, t, g1, g2, g3, h⟩ | ⟨g1, h⟩
    · have h2 := hK _ _ _ _ h hvl (zvs_t hvs) hre
      have hil : i < offs.toList.length := (List.getElem?_eq_some_iff.mp g1).1
      exact fun H locs la hP hS hl => lv_tableIn hx hb hd (by omega) (by omega) (by rw [show (a.toInt - lo).toNat = i by omega, ← Array.getElem?_toList]; exact g1) g3 (h2 H locs la hP hS hl)
    · have h2 := hK _ _ _ _ h hvl (zvs_t hvs) hre
      exact fun H locs la hP hS hl => lv_tableOut hx hb hd (by omega) hd0 (h2 H locs la hP hS hl)
  | lookupswitch d ps =>
    obtain ⟨a, q, rfl, h⟩ := zpI_i h
    simp only [zaxok, Bool.and_eq_true, decide_eq_true_eq] at hax
    obtain ⟨hd0, hps, htab⟩ := hax
    obtain ⟨o, t, g1, g2, h⟩ := zsw_lk hd0 _ _ htab h
    have h2 := hK _ _ _ _ h hvl (zvs_t hvs) hre
    exact fun H locs la hP hS hl => lv_lookup hx hb hd hps g1 g2 (h2 H locs la hP hS hl)
  | ireturn =>
    obtain ⟨v, q, rfl, ha⟩ := zpI_i h
    obtain ⟨rfl, hz⟩ := zpE_i ha
    have hax : zrk x.1 (zrtt mi) = true := hax
    have key : ∃ ty, zrtt mi = some ty ∧ narrow ty (.int v) = .int v ∧ some ((Sum.inl v : ZV), σ) = some r := by
      unfold zrk at hax
      split at hax
      · next e1 e2 =>
        rw [e1] at hz
        exact ⟨.int, e2, rfl, hz⟩
      · next e1 e2 =>
        rw [e1] at hz
        obtain ⟨h0, h⟩ := zbb_i hz
        refine ⟨.boolean, e2, ?_, h⟩
        rcases h0 with rfl | rfl <;> rfl
      · next e1 e2 =>
        rw [e1] at hz
        have h : (if v.toInt8.toInt32 = v then some ((Sum.inl v : ZV), σ) else none) = some r := hz
        by_cases hc : v.toInt8.toInt32 = v
        · rw [if_pos hc] at h
          refine ⟨.byte, e2, ?_, h⟩
          show Value.int v.toInt8.toInt32 = _
          rw [hc]
        · rw [if_neg hc] at h
          cases h
      · next e1 e2 =>
        rw [e1] at hz
        have h : (if (v.toUInt32 % 65536).toInt32 = v then some ((Sum.inl v : ZV), σ) else none) = some r := hz
        by_cases hc : (v.toUInt32 % 65536).toInt32 = v
        · rw [if_pos hc] at h
          refine ⟨.char, e2, ?_, h⟩
          show Value.int v.toUInt32.toUInt16.toUInt32.toInt32 = _
          rw [← lg_i2c_nf, hc]
        · rw [if_neg hc] at h
          cases h
      · cases hax
    obtain ⟨ty, k1, k2, k3⟩ := key
    have k4 := Option.some.inj k3
    exact fun H locs la hP hS hl => hRi v ty σ pc H locs la k4.symm k1 k2 hd hP hS hre
  | lreturn =>
    obtain ⟨v, q, rfl, h⟩ := zpJ_i h
    obtain ⟨rfl, h⟩ := zpE_i h
    have k4 := Option.some.inj h
    exact fun H locs la hP hS hl => hRl v σ pc H locs la k4.symm (of_decide_eq_true hax) hd hP hS hre
  | return_ =>
    obtain ⟨rfl, h⟩ := zpE_i h
    have k4 := Option.some.inj h
    exact fun H locs la hP hS hl => hRv σ pc H locs la k4.symm (Option.isNone_iff_eq_none.mp hax) hd hP hS hre
  | getfield idx =>
    have hnx : nx = pc + 3 := hnx
    subst hnx
    obtain ⟨n, q, rfl, h⟩ := zpA_i h
    obtain ⟨hok, h⟩ := ztr_i h
    have hok : zok n.1 n.2.2 = x.1 + 1 := Nat.eq_of_beq_eq_true hok
    obtain ⟨f, hf1, hf2⟩ := List.any_eq_true.mp hax
    simp only [Bool.and_eq_true, Nat.beq_eq] at hf2
    obtain ⟨f1, f2, f3, f4⟩ := hf2
    obtain ⟨o1, o2, o3, o4⟩ := zFL_ok f hf1
    rw [f3, f4] at o4
    rcases zvs_h hvs with hn | ⟨hr, hn⟩
    · have h4 := hw.2.2.2.1 n hn
      have h8 : x.1 < 8 := by
        have := zok_le (j := n.2.2) h4
        omega
      have ht7 : ∀ t, zrf n.1 n.2.1 n.2.2 x.2.1 = some t → t ∈ nms := fun t ht => hw.2.2.2.2.1 n hn _ _ ht
      have hzv : zvd nms ro (zfv σ n x.2.1) := by
        unfold zfv
        cases hz : zrf n.1 n.2.1 n.2.2 x.2.1 with
        | none => trivial
        | some t => exact Or.inl (ht7 t hz)
      have h2 := hK _ _ _ _ h hvl (zvs_p hzv (zvs_t hvs)) hre
      refine fun H locs la hP hS hl => ?_
      obtain ⟨i, -, hi⟩ := zws_at (cA := cA) (ad := ad) σ hn
      rw [zent_o hok] at hi
      have hv := zfl_at (fv := fv) (ad := ad) (σ := σ) (n := n) o4 (fun t ht => by
        have := hw.2.2.2.1 t (ht7 t ht)
        omega)
      show W p l e R s m args below meth c H locs cells slots Q (F0 m pc la (zcv ad fv (.inr (.inr n)) :: q.map (zcv ad fv)))
      rw [zcv_A (by omega)]
      cases hnest : f.2.2.2.2.2 with
      | true =>
        have ew : zflw f = .fieldLinkNest (zon (zow mi)) idx (zT x.1 x.2.1).1 (zT x.1 x.2.1).2.1 (zT x.1 x.2.1).2.2.1 "SeatCast" := by unfold zflw; simp only [hnest, f1, f2, f3, f4]
        rw [ew] at o1 o2
        exact va_getN hx hb hts (zin x.1 h8) hown hK0 hP i hi (zcl_at x.1 h8) x.2.1 o4 (hts _ (zTBm o1 o2)) (fun _ h => h) hv hd (h2 H locs la hP hS hl)
      | false =>
        have ew : zflw f = .fieldLink (zon (zow mi)) idx (zT x.1 x.2.1).1 (zT x.1 x.2.1).2.1 (zT x.1 x.2.1).2.2.1 := by unfold zflw; simp only [hnest, f1, f2, f3, f4]
        rw [ew] at o1 o2
        exact va_get hx hb hts (zin x.1 h8) hown hK0 hP i hi (zcl_at x.1 h8) x.2.1 o4 (hts _ (zTBm o1 o2)) (fun _ h => h) hv hd (h2 H locs la hP hS hl)
    · obtain ⟨g, hg7, rfl, h8⟩ : ∃ g, g < 7 ∧ n = (6, g, 0) ∧ x.1 = 8 := by
        obtain ⟨c', g, j⟩ := n
        rcases hn with e | e | ⟨e1, e2, e3⟩ | e
        · cases e; exact absurd hok.symm (Nat.succ_ne_zero _)
        · cases e; exact absurd hok.symm (Nat.succ_ne_zero _)
        · dsimp only at e1 e2 e3 hok
          subst e1
          rcases e3 with rfl | rfl
          · exact ⟨g, e2, rfl, by have : (9 : Nat) = x.1 + 1 := hok; omega⟩
          · exact absurd hok.symm (Nat.succ_ne_zero _)
        · dsimp only at e hok
          subst e
          exact absurd hok.symm (Nat.succ_ne_zero _)
      have hnest : f.2.2.2.2.2 = false := by
        rcases o3 with o3 | o3
        · omega
        · exact o3.2
      have hro1 := (hro hr).2.2.1 g hg7
      have ew : zflw f = .fieldLink (zon (zow mi)) idx (zT 8 x.2.1).1 (zT 8 x.2.1).2.1 (zT 8 x.2.1).2.2.1 := by unfold zflw; simp only [hnest, f1, f2, f3, f4, h8]
      rw [ew] at o1 o2
      have hk2 : x.2.1 = 0 ∨ x.2.1 = 1 := by
        rw [h8] at o4
        have : x.2.1 < 2 := o4
        omega
      rcases hk2 with hk2 | hk2
      · rw [hk2] at h o1 o2
        have h2 := hK _ _ _ _ h hvl (zvs_p (x := zA 6 g 1) (Or.inr ⟨hr, Or.inr (Or.inr (Or.inl ⟨rfl, hg7, Or.inr rfl⟩))⟩) (zvs_t hvs)) hre
        exact fun H locs la hP hS hl => vk_getf hx hb hro1.2.2.1 hS hown (hts _ (zTBm o1 o2)) (fun _ h => h) hd (h2 H locs la hP hS hl)
      · rw [hk2] at h o1 o2
        have h2 := hK _ _ _ _ h hvl (zvs_p (x := zI (σ 6 g 0 1)) trivial (zvs_t hvs)) hre
        have hE := hro1.2.1
        rw [← hre 6 (by decide)] at hE
        exact fun H locs la hP hS hl => vk_getf hx hb hE hS hown (hts _ (zTBm o1 o2)) (fun _ h => h) hd (h2 H locs la hP hS hl)
  | putfield idx =>
    have hnx : nx = pc + 3 := hnx
    subst hnx
    obtain ⟨v, q, rfl, h⟩ := zpI_i h
    obtain ⟨n, q, rfl, h⟩ := zpA_i h
    obtain ⟨hg, h⟩ := ztr_i h
    simp only [Bool.and_eq_true, Nat.beq_eq, Nat.blt_eq, Option.isNone_iff_eq_none] at hg
    obtain ⟨hok, h4, hrf⟩ := hg
    obtain ⟨hty, h⟩ := zft_i h
    simp only [zaxok, Bool.and_eq_true, List.any_eq_true, Nat.beq_eq, Nat.blt_eq, Bool.not_eq_true', decide_eq_true_eq] at hax
    obtain ⟨⟨f, hf1, f1, f2, f3, f4⟩, hfin, h8, hds⟩ := hax
    obtain ⟨o1, o2, o3, o4⟩ := zFL_ok f hf1
    rw [f3, f4] at o4
    have hn : n ∈ nms := by
      rcases zvs_h (zvs_t hvs) with hn | ⟨-, hn⟩
      · exact hn
      · exact absurd (zron_ge hn) (by omega)
    have h2 := hK _ _ _ _ h hvl (zvs_t (zvs_t hvs)) (zre_up h4 hre)
    refine fun H locs la hP hS hl => ?_
    obtain ⟨i, hi0, hi⟩ := zws_at (cA := cA) (ad := ad) σ hn
    rw [zent_o hok] at hi
    have hnew : (zws cA ad nms σ).set i (ad n, .inr (x.1, (zfl ad σ n x.1).set x.2.1 (.int v))) = zws cA ad nms (zup σ n.1 n.2.1 n.2.2 x.2.1 v) := by
      rw [← zws_up (cA := cA) (ad := ad) hw.1 hw.2.2.2.1 hi0 (fun m _ hm => zup_ne hm), zent_o hok, zfl_up o4 hrf]
    obtain ⟨ty, t1, t2, t3⟩ : ∃ ty, parseFieldDescriptor (zT x.1 x.2.1).2.2.1 = some ty ∧ narrow ty (.int v) = .int v ∧ fits ty (.int v) = true := by
      rw [hds]
      rcases hty with hty | hty
      · rw [hty]
        exact ⟨.int, by decide +kernel, rfl, rfl⟩
      · cases x.2.2.1 with
        | zero => exact ⟨.int, by decide +kernel, rfl, rfl⟩
        | succ z =>
          refine ⟨.boolean, (by decide +kernel : parseFieldDescriptor "Z" = some .boolean), ?_, ?_⟩
          · rcases hty with rfl | rfl <;> rfl
          · rcases hty with rfl | rfl <;> rfl
    have hlen : x.2.1 < (zfl ad σ n x.1).length := by
      unfold zfl
      rw [List.length_map, List.length_range]
      exact o4
    show W p l e R s m args below meth c H locs cells slots Q (F0 m pc la (.int v :: zcv ad fv (.inr (.inr n)) :: q.map (zcv ad fv)))
    rw [zcv_A (by omega)]
    cases hnest : f.2.2.2.2.2 with
    | true =>
      have ew : zflw f = .fieldLinkNest (zon (zow mi)) idx (zT x.1 x.2.1).1 (zT x.1 x.2.1).2.1 (zT x.1 x.2.1).2.2.1 "SeatCast" := by unfold zflw; simp only [hnest, f1, f2, f3, f4]
      rw [ew] at o1 o2
      exact va_putN hx hb hts (zin x.1 h8) (zY x.1) (zY_ok x.1 h8) (znm_ok x.1 h8) hown hK0 hP (zD hw σ) hS i hi (zcl_at x.1 h8) x.2.1 o4 (hts _ (zTBm o1 o2)) (fun _ h => h) hfin t1 t2 t3 hlen hd (fun H1 locs1 hP1 _ hS1 => h2 H1 locs1 la (by rw [hnew] at hP1; exact hP1) hS1 hl)
    | false =>
      have ew : zflw f = .fieldLink (zon (zow mi)) idx (zT x.1 x.2.1).1 (zT x.1 x.2.1).2.1 (zT x.1 x.2.1).2.2.1 := by unfold zflw; simp only [hnest, f1, f2, f3, f4]
      rw [ew] at o1 o2
      exact va_put hx hb hts (zin x.1 h8) (zY x.1) (zY_ok x.1 h8) (znm_ok x.1 h8) hown hK0 hP (zD hw σ) hS i hi (zcl_at x.1 h8) x.2.1 o4 (hts _ (zTBm o1 o2)) (fun _ h => h) hfin t1 t2 t3 hlen hd (fun H1 locs1 hP1 _ hS1 => h2 H1 locs1 la (by rw [hnew] at hP1; exact hP1) hS1 hl)
  | getstatic idx =>
    have hnx : nx = pc + 3 := hnx
    subst hnx
    obtain ⟨f, hf1, hf2⟩ := List.any_eq_true.mp hax
    simp only [Bool.and_eq_true, Nat.beq_eq, Nat.ble_eq, Bool.not_eq_true'] at hf2
    obtain ⟨f1, f2, f3, f4, f5⟩ := hf2
    have hr : ro = true := hpl.resolve_right (by rw [f5]; exact fun z => by cases z)
    obtain ⟨o1, o2⟩ := zGL_ok f hf1
    rw [f1, f2, f3] at o1 o2
    have h : K (pc + 3) ls (zsv x.1 :: st) σ = some r := h
    have hk2 : x.1 = 0 ∨ x.1 = 1 ∨ x.1 = 2 := by omega
    rcases hk2 with hk2 | hk2 | hk2
    · rw [hk2] at h o1 o2
      have h2 := hK _ _ _ _ h hvl (zvs_p (x := zA 5 0 0) (Or.inr ⟨hr, Or.inr (Or.inl rfl)⟩) hvs) hre
      exact fun H locs la hP hS hl => va_gets hx hb (hro hr).2.1.1 hS hown (hts _ (zTBm o1 o2)) (fun _ h => h) hd (h2 H locs la hP hS hl)
    · rw [hk2] at h o1 o2
      have h2 := hK _ _ _ _ h hvl (zvs_p (x := zI 1) trivial hvs) hre
      exact fun H locs la hP hS hl => va_gets hx hb (hro hr).2.2.2.1 hS hown (hts _ (zTBm o1 o2)) (fun _ h => h) hd (h2 H locs la hP hS hl)
    · rw [hk2] at h o1 o2
      have h2 := hK _ _ _ _ h hvl (zvs_p (x := zA 7 0 0) (Or.inr ⟨hr, Or.inr (Or.inr (Or.inr rfl))⟩) hvs) hre
      exact fun H locs la hP hS hl => va_gets hx hb (hro hr).2.2.2.2 hS hown (hts _ (zTBm o1 o2)) (fun _ h => h) hd (h2 H locs la hP hS hl)
  | iaload =>
    have hnx : nx = pc + 1 := hnx
    subst hnx
    obtain ⟨i, q, rfl, h⟩ := zpI_i h
    obtain ⟨n, q, rfl, h⟩ := zpA_i h
    obtain ⟨ht, h⟩ := ztr_i h
    have ht : zty n.1 n.2.2 = 1 := Nat.eq_of_beq_eq_true ht
    obtain ⟨hin, h⟩ := zck_i h
    have h2 := hK _ _ _ _ h hvl (zvs_i (zvs_t (zvs_t hvs))) hre
    refine fun H locs la hP hS hl => ?_
    rcases zvs_h (zvs_t hvs) with hn | ⟨hr, hn⟩
    · have h4 := hw.2.2.2.1 n hn
      obtain ⟨j, -, hj⟩ := zws_at (cA := cA) (ad := ad) σ hn
      rw [zent_a (by omega) h4, ht] at hj
      show W p l e R s m args below meth c H locs cells slots Q (F0 m pc la (.int i :: zcv ad fv (.inr (.inr n)) :: q.map (zcv ad fv)))
      rw [zcv_A (by omega)]
      exact va_iald hx hb hK0 hP j 0 hj rfl hin hd (h2 H locs la hP hS hl)
    · rcases hn with rfl | rfl | ⟨e1, -, e3⟩ | e1
      · have hin : vp_in i (σ 4 0 1 0).toNatClampNeg := hin
        rw [hre 4 (by decide)] at hin
        exact va_ti (v := .int (σ 4 0 0 i.toNatClampNeg)) hx hb (hro hr).1.1 hS hin (by rw [hre 4 (by decide)]) hd (h2 H locs la hP hS hl)
      · have hin : vp_in i (σ 5 0 1 0).toNatClampNeg := hin
        rw [hre 5 (by decide)] at hin
        exact va_ti (v := .int (σ 5 0 0 i.toNatClampNeg)) hx hb (hro hr).2.1.2 hS hin (by rw [hre 5 (by decide)]) hd (h2 H locs la hP hS hl)
      · rw [e1] at ht
        rcases e3 with e3 | e3 <;> rw [e3] at ht <;> cases ht
      · rw [e1] at ht
        cases ht
  | baload =>
    have hnx : nx = pc + 1 := hnx
    subst hnx
    obtain ⟨i, q, rfl, h⟩ := zpI_i h
    obtain ⟨n, q, rfl, h⟩ := zpA_i h
    obtain ⟨ht, h⟩ := ztr_i h
    simp only [Bool.or_eq_true, Nat.beq_eq] at ht
    obtain ⟨hin, h⟩ := zck_i h
    have h2 := hK _ _ _ _ h hvl (zvs_i (zvs_t (zvs_t hvs))) hre
    refine fun H locs la hP hS hl => ?_
    rcases zvs_h (zvs_t hvs) with hn | ⟨hr, hn⟩
    · have h4 := hw.2.2.2.1 n hn
      obtain ⟨j, -, hj⟩ := zws_at (cA := cA) (ad := ad) σ hn
      rw [zent_a (by omega) h4] at hj
      show W p l e R s m args below meth c H locs cells slots Q (F0 m pc la (.int i :: zcv ad fv (.inr (.inr n)) :: q.map (zcv ad fv)))
      rw [zcv_A (by omega)]
      rcases ht with ht | ht
      · rw [ht] at hj
        exact va_bald hx hb hK0 hP j 1 hj rfl hin hd (h2 H locs la hP hS hl)
      · rw [ht] at hj
        exact va_zald hx hb hK0 hP j 2 hj rfl hin hd (h2 H locs la hP hS hl)
    · obtain ⟨c', g, j⟩ := n
      rcases hn with e1 | e1 | ⟨e1, e2, e3⟩ | e1
      · cases e1
        rcases ht with ht | ht <;> cases ht
      · cases e1
        rcases ht with ht | ht <;> cases ht
      · dsimp only at e1 e2 e3
        subst e1
        rcases e3 with rfl | rfl
        · rcases ht with ht | ht <;> cases ht
        · have hin : vp_in i (σ 6 g 2 0).toNatClampNeg := hin
          rw [hre 6 (by decide)] at hin
          exact va_tb (v := .int (σ 6 g 1 i.toNatClampNeg)) hx hb ((hro hr).2.2.1 g e2).2.2.2.1 hS hin (by rw [hre 6 (by decide)]) hd (h2 H locs la hP hS hl)
      · dsimp only at e1
        subst e1
        rcases ht with ht | ht <;> cases ht
  | iastore =>
    have hnx : nx = pc + 1 := hnx
    subst hnx
    obtain ⟨v, q, rfl, h⟩ := zpI_i h
    obtain ⟨i, q, rfl, h⟩ := zpI_i h
    obtain ⟨n, q, rfl, h⟩ := zpA_i h
    obtain ⟨ht, h⟩ := ztr_i h
    simp only [Bool.and_eq_true, Nat.beq_eq, Nat.blt_eq] at ht
    obtain ⟨ht, h4⟩ := ht
    obtain ⟨hin, h⟩ := zck_i h
    have hn : n ∈ nms := by
      rcases zvs_h (zvs_t (zvs_t hvs)) with hn | ⟨-, hn⟩
      · exact hn
      · exact absurd (zron_ge hn) (by omega)
    have h2 := hK _ _ _ _ h hvl (zvs_t (zvs_t (zvs_t hvs))) (zre_up h4 hre)
    refine fun H locs la hP hS hl => ?_
    obtain ⟨j, hj0, hj⟩ := zws_at (cA := cA) (ad := ad) σ hn
    have hnew := zws_up (cA := cA) (ad := ad) (τ := zup σ n.1 n.2.1 n.2.2 i.toNatClampNeg v) hw.1 hw.2.2.2.1 hj0 (fun m _ hm => zup_ne hm)
    rw [zent_a (by omega) h4, ht] at hj hnew
    show W p l e R s m args below meth c H locs cells slots Q (F0 m pc la (.int v :: .int i :: zcv ad fv (.inr (.inr n)) :: q.map (zcv ad fv)))
    rw [zcv_A (by omega)]
    exact va_iast hx hb hK0 hP (zD hw σ) hS j 0 hj rfl hin hd (fun H1 locs1 hP1 _ hS1 => h2 H1 locs1 la (by
      rw [← hnew]
      unfold zea
      rw [zupd, zln_c _ σ _ _ h4]
      exact hP1) hS1 hl)
  | bastore =>
    have hnx : nx = pc + 1 := hnx
    subst hnx
    obtain ⟨v, q, rfl, h⟩ := zpI_i h
    obtain ⟨i, q, rfl, h⟩ := zpI_i h
    obtain ⟨n, q, rfl, h⟩ := zpA_i h
    obtain ⟨ht, h⟩ := ztr_i h
    simp only [Bool.and_eq_true, Bool.or_eq_true, Nat.beq_eq, Nat.blt_eq] at ht
    obtain ⟨ht, h4⟩ := ht
    obtain ⟨hin, h⟩ := zck_i h
    have hn : n ∈ nms := by
      rcases zvs_h (zvs_t (zvs_t hvs)) with hn | ⟨-, hn⟩
      · exact hn
      · exact absurd (zron_ge hn) (by omega)
    have h2 := hK _ _ _ _ h hvl (zvs_t (zvs_t (zvs_t hvs))) (zre_up h4 hre)
    refine fun H locs la hP hS hl => ?_
    obtain ⟨j, hj0, hj⟩ := zws_at (cA := cA) (ad := ad) σ hn
    have hnew := zws_up (cA := cA) (ad := ad) (τ := zup σ n.1 n.2.1 n.2.2 i.toNatClampNeg (zbs (zty n.1 n.2.2) v)) hw.1 hw.2.2.2.1 hj0 (fun m _ hm => zup_ne hm)
    rw [zent_a (by omega) h4] at hj hnew
    show W p l e R s m args below meth c H locs cells slots Q (F0 m pc la (.int v :: .int i :: zcv ad fv (.inr (.inr n)) :: q.map (zcv ad fv)))
    rw [zcv_A (by omega)]
    rcases ht with ht | ht
    · rw [ht] at hj hnew h2
      exact va_bast hx hb hK0 hP (zD hw σ) hS j 1 hj rfl hin hd (fun H1 locs1 hP1 _ hS1 => h2 H1 locs1 la (by
        rw [← hnew]
        unfold zea
        rw [zupd, zln_c _ σ _ _ h4]
        exact hP1) hS1 hl)
    · rw [ht] at hj hnew h2
      exact va_zast hx hb hK0 hP (zD hw σ) hS j 2 hj rfl hin hd (fun H1 locs1 hP1 _ hS1 => h2 H1 locs1 la (by
        rw [← hnew]
        unfold zea
        rw [zupd, zln_c _ σ _ _ h4]
        exact hP1) hS1 hl)
  | aaload =>
    have hnx : nx = pc + 1 := hnx
    subst hnx
    obtain ⟨i, q, rfl, h⟩ := zpI_i h
    obtain ⟨n, q, rfl, h⟩ := zpA_i h
    obtain ⟨ht, h⟩ := ztr_i h
    simp only [Bool.or_eq_true, Nat.beq_eq] at ht
    obtain ⟨hin, h⟩ := zck_i h
    have hn : n ∈ nms := by
      rcases zvs_h (zvs_t hvs) with hn | ⟨-, hn⟩
      · exact hn
      · exfalso
        rcases hn with rfl | rfl | ⟨e1, -, e3⟩ | e1
        · rcases ht with ht | ht <;> cases ht
        · rcases ht with ht | ht <;> cases ht
        · rw [e1] at ht
          rcases e3 with e3 | e3 <;> rw [e3] at ht <;> rcases ht with ht | ht <;> cases ht
        · rw [e1] at ht
          rcases ht with ht | ht <;> cases ht
    have h4 := hw.2.2.2.1 n hn
    have hra : zra n.2.2 i.toNatClampNeg ∈ nms := hw.2.2.2.2.2 n hn ht _ (by
      rw [zln_c _ σ _ _ h4]
      exact Nat.not_le.mp fun z => hin (Or.inr z))
    have hra4 := hw.2.2.2.1 _ hra
    have h2 := hK _ _ _ _ h hvl (zvs_p (x := .inr (.inr (zra n.2.2 i.toNatClampNeg))) (Or.inl hra) (zvs_t (zvs_t hvs))) hre
    refine fun H locs la hP hS hl => ?_
    obtain ⟨j, -, hj⟩ := zws_at (cA := cA) (ad := ad) σ hn
    rw [zent_a (by omega) h4] at hj
    have h2 := h2 H locs la hP hS hl
    have h2 : W p l e R s m args below meth c H locs cells slots Q (F0 m (pc + 1) la (zcv ad fv (.inr (.inr (zra n.2.2 i.toNatClampNeg))) :: q.map (zcv ad fv))) := h2
    rw [zcv_A (by omega)] at h2
    show W p l e R s m args below meth c H locs cells slots Q (F0 m pc la (.int i :: zcv ad fv (.inr (.inr n)) :: q.map (zcv ad fv)))
    rw [zcv_A (by omega)]
    rcases ht with ht | ht
    · rw [ht] at hj
      exact va_aldq hx hb hK0 hP j 3 hj rfl hin hd h2
    · rw [ht] at hj
      exact va_aldq hx hb hK0 hP j 4 hj rfl hin hd h2
  | arraylength =>
    have hnx : nx = pc + 1 := hnx
    subst hnx
    obtain ⟨n, q, rfl, h⟩ := zpA_i h
    obtain ⟨h46, h⟩ := ztr_i h
    obtain ⟨ht, h⟩ := ztr_i h
    simp only [Bool.or_eq_true, Nat.beq_eq] at h46 ht
    have h2 := hK _ _ _ _ h hvl (zvs_i (zvs_t hvs)) hre
    refine fun H locs la hP hS hl => ?_
    rcases zvs_h hvs with hn | ⟨hr, hn⟩
    · have h4 := hw.2.2.2.1 n hn
      omega
    · obtain ⟨c', g, j⟩ := n
      rcases hn with e1 | e1 | ⟨e1, e2, e3⟩ | e1
      · cases e1
        exact va_tlen (v := σ 4 0 1 0) hx hb (hro hr).1.1 hS (by rw [hre 4 (by decide)]; exact (hro hr).1.2) hd (h2 H locs la hP hS hl)
      · cases e1
        rcases h46 with h46 | h46 <;> cases h46
      · dsimp only at e1 e2 e3
        subst e1
        rcases e3 with rfl | rfl
        · rcases ht with ht | ht <;> cases ht
        · exact va_tlen (v := σ 6 g 2 0) hx hb ((hro hr).2.2.1 g e2).2.2.2.1 hS (by rw [hre 6 (by decide)]; exact ((hro hr).2.2.1 g e2).2.2.2.2.1) hd (h2 H locs la hP hS hl)
      · dsimp only at e1
        subst e1
        rcases h46 with h46 | h46 <;> cases h46
  | invokevirtual idx =>
    have hnx : nx = pc + 3 := hnx
    subst hnx
    dsimp only [zsem] at h
    obtain ⟨as, q, rfl, hlen, ha⟩ := zpn_i h
    obtain ⟨hg, hb2⟩ := ztr_i ha
    simp only [Bool.and_eq_true, Nat.ble_eq] at hg
    obtain ⟨hrc, h8, hnl⟩ := hg
    obtain ⟨v, σ2, hCv, hd2, hkind⟩ := zcl_i hb2
    have hax : (zcall_ok mi idx x 0 && (Nat.ble (zrc0 x) 9 && (Nat.ble 1 (zrc0 x) && decide (zR (zrc0 x - 1) = (zyn x.1).cls)))) = true := by
      have hax : (match x.2.2.1 with
        | 9 => true
        | _ => zcall_ok mi idx x 0 && (Nat.ble (zrc0 x) 9 && (Nat.ble 1 (zrc0 x) && decide (zR (zrc0 x - 1) = (zyn x.1).cls)))) = true := hax
      rcases hkind with e | ⟨e, -⟩ | ⟨e, -⟩ <;> rw [e] at hax <;> exact hax
    obtain ⟨c1, c2, c3, c4, c5⟩ := zcall_ok_i ((Bool.and_eq_true _ _).mp hax).1
    have hvas : zvs nms ro as := fun w hw => hvs w (List.mem_append_left _ (List.mem_reverse.mpr hw))
    have hM := hC _ _ _ _ _ hCv c1 c2 (hpl.imp id c5) (by rw [← c3]; exact hnl) hvas hre
    refine fun H locs la hP hS hl => zstep_V hf hw hc0 hax hd hlen h8 hrc hvas (fun _ _ => hM) hP hS hl (fun H1 locs1 hP1 hS1 hre2 => ?_)
    rw [zan_eq c4]
    exact hK _ _ _ _ hd2 hvl (zvs_u hkind (fun w hw => hvs w (List.mem_append_right _ hw))) hre2 H1 locs1 la hP1 hS1 hl
  | invokestatic idx =>
    have hnx : nx = pc + 3 := hnx
    subst hnx
    have hsum : ∀ (q : List ZV), zsum q ≤ 8 → Nat.ble 28 (zlo mi) = true → ((q.map (zcv ad fv)).map fun v => v.category).sum + 20 ≤ R.locals := by
      intro q h8 h28
      rw [zsum_c hf]
      rw [Nat.ble_eq] at h28
      omega
    dsimp only [zsem] at h
    split at h
    · next hk =>
      obtain ⟨n, q1, rfl, g1⟩ := zpI_i h
      obtain ⟨dp, q2, rfl, g2⟩ := zpI_i g1
      obtain ⟨d, q3, rfl, g3⟩ := zpA_i g2
      obtain ⟨sp, q4, rfl, g4⟩ := zpI_i g3
      obtain ⟨a, q, rfl, g5⟩ := zpA_i g4
      obtain ⟨hg, g6⟩ := ztr_i g5
      simp only [Bool.and_eq_true, Nat.ble_eq, Nat.beq_eq, Nat.blt_eq] at hg
      obtain ⟨⟨ta, td, a4, d4⟩, har, h8⟩ := hg
      unfold zarr at har
      simp only [Bool.and_eq_true, Nat.ble_eq, decide_eq_true_eq, Bool.not_eq_true', decide_eq_false_iff_not] at har
      obtain ⟨rfl, rfl, hn0, l1, l2⟩ := har
      simp only [zaxok, hk, Bool.and_eq_true, List.any_eq_true, Nat.beq_eq] at hax
      obtain ⟨⟨f, hf1, f1, f2, f3⟩, b1, b2⟩ := hax
      obtain ⟨o1, o2⟩ := zNL_ok f hf1
      have ew : znlw f = .methodLink (zon (zow mi)) idx arraycopyName := by unfold znlw; simp only [f1, f2, f3]
      rw [ew] at o1 o2
      have han : a ∈ nms := by
        rcases hvs (.inr (.inr a)) (by simp) with hn | ⟨-, hn⟩
        · exact hn
        · exact absurd (zron_ge hn) (by omega)
      have hdn : d ∈ nms := by
        rcases hvs (.inr (.inr d)) (by simp) with hn | ⟨-, hn⟩
        · exact hn
        · exact absurd (zron_ge hn) (by omega)
      have h2 := hK _ _ _ _ g6 hvl (fun w hw => hvs w (by simp only [List.mem_cons]; exact Or.inr (Or.inr (Or.inr (Or.inr (Or.inr hw)))))) (zre_cpy d4 hre)
      refine fun H locs la hP hS hl => ?_
      obtain ⟨ja, hja0, hja⟩ := zws_at (cA := cA) (ad := ad) σ han
      obtain ⟨jd, hjd0, hjd⟩ := zws_at (cA := cA) (ad := ad) σ hdn
      have hnew := zws_up (cA := cA) (ad := ad) (τ := zcpy σ a.1 a.2.1 a.2.2 d.1 d.2.1 d.2.2 n.toNatClampNeg) hw.1 hw.2.2.2.1 hjd0 (fun m _ hm => zcpy_ne hm)
      rw [zent_a (by omega) a4, ta] at hja
      rw [zent_a (by omega) d4, td] at hjd hnew
      show W p l e R s m args below meth c H locs cells slots Q (F0 m pc la (.int n :: .int 0 :: zcv ad fv (.inr (.inr d)) :: .int 0 :: zcv ad fv (.inr (.inr a)) :: q.map (zcv ad fv)))
      rw [zcv_A (show d.1 < 7 by omega), zcv_A (show a.1 < 7 by omega)]
      rw [Nat.ble_eq] at b1
      exact va_copyi hx hb (hml.trans hl.1.symm) hown (hts _ (zTBm o1 o2)) (hts _ (zTBm (znat_ok _ (List.mem_of_getElem? (i := 5) rfl)).1 (znat_ok _ (List.mem_of_getElem? (i := 5) rfl)).2)) (hts _ (zTBm (znat_ok _ (List.mem_of_getElem? (i := 6) rfl)).1 (znat_ok _ (List.mem_of_getElem? (i := 6) rfl)).2)) (hts _ (zTBm (znat_ok _ (List.mem_of_getElem? (i := 7) rfl)).1 (znat_ok _ (List.mem_of_getElem? (i := 7) rfl)).2)) hK0 hP (zD hw σ) hS ja jd 0 0 hja hjd rfl rfl rfl (by decide) (by decide) hn0 (by simpa using l1) (by simpa using l2) (fun _ _ => rfl) (by omega) (Nat.le_trans (Nat.add_le_add_left (show nativeFrameWords "java/lang/System" "arraycopy" 5 + 11 ≤ 20 by decide +kernel) _) (hsum q h8 b2)) hd
        (fun H1 locs1 hP1 _ hS1 => h2 H1 locs1 la (by
          rw [← hnew]
          unfold zea
          rw [zcpyd, zln_c _ σ _ _ d4]
          exact hP1) hS1 hl)
    · next hk =>
      obtain ⟨a, q, rfl, g1⟩ := zpI_i h
      obtain ⟨h8, g2⟩ := ztr_i g1
      rw [Nat.ble_eq] at h8
      simp only [zaxok, hk, Bool.and_eq_true, List.any_eq_true, Nat.beq_eq] at hax
      obtain ⟨⟨f, hf1, f1, f2, f3⟩, b1, b2⟩ := hax
      obtain ⟨o1, o2⟩ := zNL_ok f hf1
      have ew : znlw f = .methodLink (zon (zow mi)) idx Lib.Math.abs.name := by unfold znlw; simp only [f1, f2, f3]
      rw [ew] at o1 o2
      have h2 := hK _ _ _ _ g2 hvl (zvs_i (zvs_t hvs)) hre
      refine fun H locs la hP hS hl => ?_
      have hs2 := hsum q h8 b2
      rw [Nat.ble_eq] at b1
      exact va_mabs hx hb (hml.trans hl.1.symm) hown (hts _ (zTBm o1 o2)) (hts _ (zTBm (znat_ok _ (List.mem_of_getElem? (i := 0) rfl)).1 (znat_ok _ (List.mem_of_getElem? (i := 0) rfl)).2)) (hts _ (zTBm (znat_ok _ (List.mem_of_getElem? (i := 1) rfl)).1 (znat_ok _ (List.mem_of_getElem? (i := 1) rfl)).2)) (hts _ (zTBm (znat_ok _ (List.mem_of_getElem? (i := 2) rfl)).1 (znat_ok _ (List.mem_of_getElem? (i := 2) rfl)).2)) (by omega) (by omega) hce hsl hd (h2 H locs la hP hS hl)
    · next hk =>
      obtain ⟨a, q, rfl, g1⟩ := zpJ_i h
      obtain ⟨h8, g2⟩ := ztr_i g1
      rw [Nat.ble_eq] at h8
      simp only [zaxok, hk, Bool.and_eq_true, List.any_eq_true, Nat.beq_eq] at hax
      obtain ⟨⟨f, hf1, f1, f2, f3⟩, b1, b2⟩ := hax
      obtain ⟨o1, o2⟩ := zNL_ok f hf1
      have ew : znlw f = .methodLink (zon (zow mi)) idx Lib.MathLoose.abs_long.x := by unfold znlw; simp only [f1, f2, f3]
      rw [ew] at o1 o2
      have h2 := hK _ _ _ _ g2 hvl (zvs_j (zvs_t hvs)) hre
      refine fun H locs la hP hS hl => ?_
      have hs2 := hsum q h8 b2
      rw [Nat.ble_eq] at b1
      exact va_mabs_long hx hb (hml.trans hl.1.symm) hown (hts _ (zTBm o1 o2)) (hts _ (zTBm (znat_ok _ (List.mem_of_getElem? (i := 3) rfl)).1 (znat_ok _ (List.mem_of_getElem? (i := 3) rfl)).2)) (hts _ (zTBm (znat_ok _ (List.mem_of_getElem? (i := 1) rfl)).1 (znat_ok _ (List.mem_of_getElem? (i := 1) rfl)).2)) (hts _ (zTBm (znat_ok _ (List.mem_of_getElem? (i := 4) rfl)).1 (znat_ok _ (List.mem_of_getElem? (i := 4) rfl)).2)) (by omega) (by omega) hce hsl hd (h2 H locs la hP hS hl)
    · obtain ⟨as, q, rfl, hlen, g1⟩ := zpn_i h
      obtain ⟨hg, g2⟩ := ztr_i g1
      simp only [Bool.and_eq_true, Nat.ble_eq] at hg
      obtain ⟨h8, hnl⟩ := hg
      obtain ⟨v, σ2, hCv, g3, hkind⟩ := zcl_i g2
      have hax : zcall_ok mi idx x 1 = true := by
        simp only [zaxok] at hax
        rcases hkind with e | ⟨e, -⟩ | ⟨e, -⟩ <;> rw [e] at hax <;> exact hax
      obtain ⟨c1, c2, c3, c4, c5⟩ := zcall_ok_i hax
      have hvas : zvs nms ro as := fun w hw => hvs w (List.mem_append_left _ (List.mem_reverse.mpr hw))
      have hM := hC _ _ _ _ _ hCv c1 c2 (hpl.imp id c5) (by rw [← c3]; exact hnl) hvas hre
      refine fun H locs la hP hS hl => zstep_S hf hc0 hax hd hlen h8 (fun _ _ => hM) hP hS hl (fun H1 locs1 hP1 hS1 hre2 => ?_)
      rw [zan_eq c4]
      exact hK _ _ _ _ g3 hvl (zvs_u hkind (fun w hw => hvs w (List.mem_append_right _ hw))) hre2 H1 locs1 la hP1 hS1 hl
  | _ => cases h
end ZSTEP2
