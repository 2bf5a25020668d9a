/-! NEW CELLS: arrays of the classes that are known, objects by their constructors, a method of the small machine called from outside -/
theorem kz_eq {u : State} {c1 c2 : ClassId} {ty : FieldType} (h1 : va_RA u c1 ty) (h2 : va_RA u c2 ty) : c1 = c2 := by
  cases ty with
  | object C =>
    obtain ⟨k1, m1, a1, a2, a3, a4⟩ := h1
    obtain ⟨k2, m2, b1, b2, b3, b4⟩ := h2
    exact Option.some.inj (a4.symm.trans b4)
  | _ =>
    have g1 : u.vm.findClass _ = some c1 := h1
    have g2 : u.vm.findClass _ = some c2 := h2
    exact Option.some.inj (g1.symm.trans g2)
theorem kz_one {α : Type} {a b : α} {k : Nat} (h : [a][k]? = some b) : k = 0 ∧ a = b := by
  match k, h with
  | 0, h => exact ⟨rfl, Option.some.inj h⟩
  | k + 1, h => simp at h
theorem kz_D1 {h0 sz : Nat} {e : va_E} : va_D (va_A [(h0, e)] sz) [(h0, e)] :=
  ⟨fun i j p q hi hj _ => by rw [(kz_one hi).1, (kz_one hj).1], fun k q hk => va_A.in hk⟩
theorem kz_last {ws : va_W} {x : Nat × va_E} : (ws ++ [x])[ws.length]? = some x := by
  rw [List.getElem?_append_right (Nat.le_refl _), Nat.sub_self]
  rfl
theorem kz_plain : ∀ q, q < 8 → zR q ≠ "java/lang/invoke/MethodHandle" ∧ zR q ≠ "java/lang/invoke/VarHandle" := by decide +kernel
theorem kz_desc : (parseMethodDescriptor "()V").map (fun d => d.parameters.length) = some 0 := by decide +kernel
/-- a part of the fixed world, out of its cells being apart -/
theorem kz_wf {cA : Nat → ClassId} {ad : ZN → Nat} {nms : List ZN} {A : Nat → Prop} {σ : ZS} (hD : va_D A (zws cA ad nms σ)) (h1 : nms.Nodup) (h4 : ∀ n ∈ nms, n.1 < 4) (h5 : ∀ n ∈ nms, ∀ k t, zrf n.1 n.2.1 n.2.2 k = some t → t ∈ nms) (h6 : ∀ n ∈ nms, (zty n.1 n.2.2 = 4 ∨ zty n.1 n.2.2 = 5) → ∀ k, k < zln (fun _ _ _ _ => 0) n.1 n.2.1 n.2.2 → zra n.2.2 k ∈ nms) : zwf ad nms A := by
  refine ⟨h1, fun n hn => ?_, fun n hn m hm hnm => ?_, h4, h5, h6⟩
  · obtain ⟨i, -, hi⟩ := zws_at (cA := cA) (ad := ad) σ hn
    exact hD.2 i _ hi
  · obtain ⟨i, ni, hi⟩ := zws_at (cA := cA) (ad := ad) σ hn
    obtain ⟨j, nj, hj⟩ := zws_at (cA := cA) (ad := ad) σ hm
    have e := hD.1 i j _ _ hi hj hnm
    subst e
    exact Option.some.inj (ni.symm.trans nj)
/-- a row of cells holds what its places hold, no more -/
theorem kz_Pq {D : va_G} {cl : List vw_C} {ws : va_W} {H : Heap} {k a n : Nat} {cq : ClassId} {f f' : Nat → Option Nat} (hP : va_P D cl ws H) (he : ws[k]? = some (a, .inl (cq, n, .inr (.inr (.inr (.inr f)))))) (h : ∀ j, j < n → f j = f' j) : va_P D cl (ws.set k (a, .inl (cq, n, .inr (.inr (.inr (.inr f')))))) H := by
  intro i x hx
  by_cases e : k = i
  · subst e
    have hl := (List.getElem?_eq_some_iff.mp he).1
    rw [List.getElem?_set_self hl] at hx
    cases hx
    have h1 : H[a]? = some (vp_cell cq (n, .inr (.inr (.inr (.inr f))))) := hP k _ he
    show H[a]? = some (vp_cell cq (n, .inr (.inr (.inr (.inr f')))))
    have h2 : (fun j : Fin n => va_rf (f j.val)) = (fun j : Fin n => va_rf (f' j.val)) := funext fun j => by rw [h j.val j.isLt]
    have h3 : arrV cq n (fun j => va_rf (f j)) = arrV cq n (fun j => va_rf (f' j)) := by
      show ({ cls := cq, slots := Array.ofFn (n := n) fun j => va_rf (f j.val), vm := .none } : Cell) = { cls := cq, slots := Array.ofFn (n := n) fun j => va_rf (f' j.val), vm := .none }
      rw [h2]
    rw [h1, vp_cell_q, vp_cell_q, h3]
  · rw [List.getElem?_set_ne e] at hx
    exact hP i x hx
section KZ
variable {p : Program} {l : Launch} {e : Env} {R : Room} {s : State} {m : MethodId} {args : Array Value} {below : List Frame} {meth : Method} {c : Code} {H : Heap} {locs : List Loc} {cells slots : Nat} {Q : State → Prop}
variable {cc : ByteArray} {pc : Nat} {la : Array Slot} {rest : List Value} {D : va_G} {cA : Nat → ClassId} {A : Nat → Prop} {ws : va_W} {H0 : Heap}
theorem kz_newa (hexec : p.tables.exec = Jvm.exec) (hb : c.code = cc) {atype : ArrayType} (harr : (Cond.arrayClass (newarray.typeOf atype)).before args s = true) {ty : FieldType} (hty : newarray.typeOf atype = ty) (hdv : defaultValue ty = .int 0) (t : Nat) {ca : ClassId} (ht : (ztys cA)[t]? = some (ca, ty)) (hK : va_K D vwCl (ztys cA) s) (hP : va_P D vwCl ws H) (hD : va_D A ws) (hS : va_S A H0 H locs) (hA : ∀ q, H0.size ≤ q → A q)
    {n : Int32} {N' : Nat} (hn : ¬ n < 0) (hN : n.toNatClampNeg = N') (hbytes : N' * componentBytes ty ≤ 536870912) (hcells : cells + 1 ≤ R.cells) (hslots : slots + N' ≤ R.slots) (hdg : decode cc pc = .ok (.newarray atype, 2))
    (kk : ∀ (q : Nat) (H1 : Heap), va_P D vwCl (ws ++ [(q, .inl (ca, N', .inl (fun _ => 0)))]) H1 → va_D A (ws ++ [(q, .inl (ca, N', .inl (fun _ => 0)))]) → va_S A H0 H1 locs →
      W p l e R s m args below meth c H1 locs (cells + 1) (slots + N') Q (F0 m (pc + 2) la (.ref q :: rest))) : W p l e R s m args below meth c H locs cells slots Q (F0 m pc la (.int n :: rest)) := by
  refine va_newa hexec hb harr hty hK hP hD hS hA (a0 := (N', .inl (fun _ => 0))) (fun c1 => by rw [hdv]; rfl) hn hN hbytes hcells hslots hdg (fun q c1 H1 hK1 hP1 hD1 hS1 => ?_)
  have e1 : c1 = ca := by
    have h1 := (hK1.2 (ztys cA).length (c1, ty) (by rw [List.getElem?_append_right (Nat.le_refl _), Nat.sub_self]; rfl)).2
    exact kz_eq h1 (hK.2 t _ ht).2
  rw [e1] at hP1 hD1
  exact kk q H1 hP1 hD1 hS1
theorem kz_newq (hexec : p.tables.exec = Jvm.exec) (hb : c.code = cc) {own C : String} {index : Nat} (hown : s.vm.findClass own = some m.cls) (hclink : (Cond.classLink own index C).before args s = true) (hover : va_AO C s) (t : Nat) {ca : ClassId} (ht : (ztys cA)[t]? = some (ca, .object C)) (hK : va_K D vwCl (ztys cA) s) (hP : va_P D vwCl ws H) (hD : va_D A ws) (hS : va_S A H0 H locs) (hA : ∀ q, H0.size ≤ q → A q)
    {n : Int32} {N' : Nat} (hn : ¬ n < 0) (hN : n.toNatClampNeg = N') (hbytes : N' * 4 ≤ 536870912) (hcells : cells + 1 ≤ R.cells) (hslots : slots + N' ≤ R.slots) (hdg : decode cc pc = .ok (.anewarray index, 3))
    (kk : ∀ (q : Nat) (H1 : Heap), va_P D vwCl (ws ++ [(q, .inl (ca, N', .inr (.inr (.inr (.inr (fun _ => none))))))]) H1 → va_D A (ws ++ [(q, .inl (ca, N', .inr (.inr (.inr (.inr (fun _ => none))))))]) → va_S A H0 H1 locs →
      W p l e R s m args below meth c H1 locs (cells + 1) (slots + N') Q (F0 m (pc + 3) la (.ref q :: rest))) : W p l e R s m args below meth c H locs cells slots Q (F0 m pc la (.int n :: rest)) := by
  refine va_newq hexec hb hown hclink hover hK hP hD hS hA hn hN hbytes hcells hslots hdg (fun q c1 H1 hK1 hP1 hD1 hS1 => ?_)
  have e1 : c1 = ca := by
    have h1 := (hK1.2 (ztys cA).length (c1, .object C) (by rw [List.getElem?_append_right (Nat.le_refl _), Nat.sub_self]; rfl)).2
    exact kz_eq h1 (hK.2 t _ ht).2
  rw [e1] at hP1 hD1
  exact kk q H1 hP1 hD1 hS1
/-- a constructor's contract: from one new cell to a world -/
def kz_Con (l : Launch) (D : va_G) (cA : Nat → ClassId) (X : State → Prop) (y : MethodName) (cy : ByteArray) (nl : Nat) (rm : Room) (q : Nat) (fs : List Value) {S : Type} (post : Nat → S → Prop) (w1 : S → va_W) : Prop :=
  ∀ (h0 sz : Nat), Met l y (Cond.code y cy nl none :: zTB) rm (va_Pc [.ref h0] (fun U => U.heap.size = sz ∧ va_P D vwCl [(h0, .inr (q, fs))] U.heap ∧ va_K D vwCl (ztys cA) U ∧ X U)) (va_Qv (post h0) (fun u t => va_P D vwCl (w1 u) t.heap ∧ va_D (va_A [(h0, .inr (q, fs))] sz) (w1 u)) (va_A [(h0, .inr (q, fs))] sz)) rm.cells rm.slots (va_A [(h0, .inr (q, fs))] sz)
/-- new, dup, the constructor -/
theorem kz_new {S : Type} {X : State → Prop} {post : Nat → S → Prop} {w1 : S → va_W} {own : String} {nL nl index idx2 : Nat} {y : MethodName} {cy : ByteArray} {rm : Room} {fs : List Value} (hx : p.tables.exec = Jvm.exec) (hb : c.code = cc) (hml : c.maxLocals = nL) (hown : s.vm.findClass own = some m.cls) (hts : ∀ w ∈ zTB, w.before args s = true) (hK : va_K D vwCl (ztys cA) s) (hP : va_P D vwCl ws H) (hD : va_D A ws) (hS : va_S A s.heap H locs) (hA : ∀ q, s.heap.size ≤ q → A q)
    (q : Nat) (hq : q < 8) (hfs : ∀ j, j < zfn q → defaultValue (zY q j) = vp_V fs j)
    (hcl : (Cond.classLink own index (zR q)).before args s = true) (hinst : (Cond.instantiable (zR q) (zfn q)).before args s = true) (hini : (Cond.initialized (zR q)).before args s = true)
    (hM : kz_Con l D cA X y cy nl rm q fs post w1) (hX : X s) (hXm : ∀ u U : State, u.vm.Alike U.vm → X u → X U) (hyc : y.cls = zR q) (hyn : y.name = "<init>") (hyd : y.desc = "()V")
    (hin : (Cond.instanceMethod y).before args s = true) (hcode : Cond.code y cy nl none ∈ zTB)
    (hlk : (Cond.methodLink own idx2 y).before args s = true ∨ (Cond.methodLinkNest own idx2 y "SeatCast").before args s = true)
    (hrm : rm.frames + 1 ≤ R.frames ∧ 8 + (nl + 11) + rm.locals ≤ R.locals) (hroom : cells + 1 + rm.cells ≤ R.cells ∧ slots + zfn q + rm.slots ≤ R.slots)
    (hsz : la.size = nL) (hrest : 1 + (rest.map fun v => v.category).sum ≤ 8)
    (d1 : decode cc pc = .ok (.new index, 3)) (d2 : decode cc (pc + 3) = .ok (.dup, 1)) (d3 : decode cc (pc + 3 + 1) = .ok (.invokespecial idx2, 3))
    (kk : ∀ (u : S) (h1 : Nat) (H1 : Heap) (locs1 : List Loc), post h1 u → va_P D vwCl (ws ++ w1 u) H1 → va_D A (ws ++ w1 u) → va_S A s.heap H1 locs1 → W p l e R s m args below meth c H1 locs1 (cells + 1 + rm.cells) (slots + zfn q + rm.slots) Q (F0 m (pc + 3 + 1 + 3) la (.ref h1 :: rest))) : W p l e R s m args below meth c H locs cells slots Q (F0 m pc la rest) := by
  refine va_new hx hb hts (zin q hq) (zY q) (zY_ok q hq) hown hcl hinst hini hK hP hD hS hA (zcl_at q hq) hfs (Nat.le_trans (Nat.le_add_right _ _) hroom.1) (Nat.le_trans (Nat.le_add_right _ _) hroom.2) d1 (fun h1 H1 hP1 hD1 hS1 => ?_)
  refine lv_dup hx hb d2 rfl ?_
  have hat := hP1 ws.length _ kz_last
  have hPc : va_P D vwCl [(h1, .inr (q, fs))] H1 := fun k x hk => by
    rw [← (kz_one hk).2]
    exact hat
  have hF : ∀ q', va_A [(h1, .inr (q, fs))] H1.size q' → A q' := by
    rintro q' (⟨k, e1, hk⟩ | hk)
    · rw [← show h1 = q' from congrArg Prod.fst (kz_one hk).2]
      exact hD1.2 ws.length _ kz_last
    · exact hA q' (Nat.le_trans hS1.1 hk)
  have hpl : y.cls ≠ "java/lang/invoke/MethodHandle" ∧ y.cls ≠ "java/lang/invoke/VarHandle" := by
    rw [hyc]
    exact kz_plain q hq
  have hpar : ∀ sig, parseMethodDescriptor y.desc = some sig → 0 = sig.parameters.length := by
    intro sig h
    rw [hyd] at h
    have h2 := kz_desc
    rw [h] at h2
    exact (Option.some.inj h2).symm
  have hw : ∀ w ∈ (Cond.code y cy nl none :: zTB), ∀ (a' : Array Value) (U : State), s.WarmedH U.vm → w.before a' U = true := by
    intro w hw a' U hW
    rcases List.mem_cons.mp hw with rfl | hw
    · exact zTB_warm hts _ hcode a' U hW
    · exact zTB_warm hts _ hw a' U hW
  have hini2 : (Cond.initialized y.cls).before args s = true := by
    rw [hyc]
    exact hini
  have hbl : FrameBlind (va_Pc [.ref h1] (fun U => U.heap.size = H1.size ∧ va_P D vwCl [(h1, .inr (q, fs))] U.heap ∧ va_K D vwCl (ztys cA) U ∧ X U)) := fun a U g mk z => ⟨z.1, z.2.1, z.2.2.1, va_K.moved (u := U) (U := U.calling g mk a) (Vm.Alike.refl U.vm) z.2.2.2.1, hXm U (U.calling g mk a) (Vm.Alike.refl U.vm) z.2.2.2.2⟩
  have hpre : ∀ U : State, U.heap = H1 → s.WarmedH U.vm → (va_Pc [.ref h1] (fun U => U.heap.size = H1.size ∧ va_P D vwCl [(h1, .inr (q, fs))] U.heap ∧ va_K D vwCl (ztys cA) U ∧ X U)) (Value.ref h1 :: ([] : List Value)).toArray U := fun U hU hW => ⟨rfl, by rw [hU], by rw [hU]; exact hPc, va_K.moved hW.alike hK, hXm s U hW.alike hX⟩
  have hr8 : 2 * (F0 m (pc + 3 + 1) la (.ref h1 :: .ref h1 :: rest)).monitorRoom + ((Value.ref h1 :: rest).map fun v => v.category).sum ≤ 8 := lv_room (st := Value.ref h1 :: rest) hrest
  have run : va_Run p l e R s m args below meth c H1 locs (cells + 1) (slots + zfn q) rm.cells rm.slots (F0 m (pc + 3 + 1) la (.ref h1 :: .ref h1 :: rest)) (.ref h1 :: rest) (va_Qv (post h1) (fun u t => va_P D vwCl (w1 u) t.heap ∧ va_D (va_A [(h1, .inr (q, fs))] H1.size) (w1 u)) (va_A [(h1, .inr (q, fs))] H1.size) (Value.ref h1 :: ([] : List Value)).toArray) (va_A [(h1, .inr (q, fs))] H1.size) := by
    rcases hlk with hlk | hlk
    · exact va_runI (As := []) (rest := .ref h1 :: rest) ⟨hx, hb, hml, hown, hts⟩ (hM h1 H1.size) ⟨⟨rfl, rfl, hrm.1, hrm.2, hw, List.mem_cons_self, hts _ hcode, hini2, hpl, hpar, hlk⟩, hyn, hin⟩ ⟨hbl, hpre⟩ rfl rfl hsz rfl hr8 d3 hroom
    · exact va_runIN (As := []) (rest := .ref h1 :: rest) ⟨hx, hb, hml, hown, hts⟩ (hM h1 H1.size) ⟨⟨⟨rfl, rfl, hrm.1, hrm.2, hw, List.mem_cons_self⟩, hts _ hcode, hini2, hpl, hpar, hlk⟩, hyn, hin⟩ ⟨hbl, hpre⟩ rfl rfl hsz rfl hr8 d3 hroom
  refine va_callv run hS1 (fun q' _ h => hF q' h) hF (fun u t H2 locs2 ht hvm hw2 hB hz hk hS2 => ?_)
  obtain ⟨hPu, hDu⟩ := hB
  rw [ht] at hPu
  have hin1 : ∀ (k : Nat) (x : Nat × va_E), ws[k]? = some x → (ws ++ [(h1, .inr (q, fs))])[k]? = some x := fun k x hx => by
    rw [List.getElem?_append_left (List.getElem?_eq_some_iff.mp hx).1]
    exact hx
  have apart : ∀ (k : Nat) (x : Nat × va_E), ws[k]? = some x → ¬ va_A [(h1, .inr (q, fs))] H1.size x.1 := by
    intro k x hx h
    rcases h with ⟨j, e1, hj⟩ | hj
    · have e2 : h1 = x.1 := congrArg Prod.fst (kz_one hj).2
      have e3 := hD1.1 k ws.length x _ (hin1 k x hx) kz_last e2.symm
      have e4 := (List.getElem?_eq_some_iff.mp hx).1
      omega
    · exact absurd (hP1 k x (hin1 k x hx)).lt (Nat.not_lt.mpr hj)
  have hPw : va_P D vwCl ws H2 := va_P.kept (H := H1) (fun k x hx => hP1 k x (hin1 k x hx)) (fun k x hx => hk x.1 (hP1 k x (hin1 k x hx)).lt (apart k x hx))
  exact kk u h1 H2 locs2 hw2 (va_P.app hPw hPu) (va_D.app hD (hDu.weaken (fun k x _ h => hF x.1 h)) (fun i j x y hx hy hxy => apart i x hx (by rw [hxy]; exact hDu.2 j y hy))) hS2
/-- a plain method's run as a contract -/
theorem kz_met {dC : Nat → ClassId} {dI : Nat → Nat → Nat} {ad : ZN → Nat} {fv : Value} {nms : List ZN} {ro : Bool} {ρ : ZS} (hf : fv.category = 1) (hfv : fv = .null ∨ ∃ a, fv = .ref a) (hw : zwf ad nms A) {k : Nat} {as : List ZV} {σ1 σ2 : ZS} {v : ZV} (h : zcall k as σ1 = some (v, σ2)) (hk : k < 215) (hpl : ro = true ∨ zplain k = true) (hnl : zsum as ≤ znl k) (hvs : zvs nms ro as) (hre : zre ρ σ1) : zMet l dC dI cA ad fv nms A ro ρ k as σ1 v σ2 := by
  obtain ⟨n, h⟩ := zev_some.mp h
  refine Met.ofW (cc := zbt k) (maxL := znl k) (ret := zrtt k) (zm_plain k hk).1 rfl ?_
  intro p e s m args below meth c s₁ B hml hv
  obtain ⟨rfl, hP, hK, hro⟩ := hv
  have hts := atoms_spec (ws := Cond.code (zyn k) (zbt k) (znl k) (zrtt k) :: zTB) B.pre
  have hown : s.vm.findClass (zon (zow k)) = some m.cls := by
    rw [zow_ok k hk]
    exact findClass_of_methodNamed B.named
  have hl := lv_entry (as.map (zcv ad fv)) (n := znl k) (by rw [zsl_c hf]; exact hnl)
  rw [lg_entry_eq]
  refine zsound hf hfv hw n k hk hpl 0 (zargs 0 as) [] σ1 (v, σ2) h (fun q hq => hvs _ (zargs_s as 0 q hq)) (fun q hq => by cases hq) hre p e _ s m _ below meth c 0 0 _ ⟨B.exec, B.bytes, hml, hown, fun w hw => hts w (List.mem_cons_of_mem _ hw), Nat.le_refl _, Nat.le_refl _, Nat.le_refl _, Nat.le_refl _, hK, hro⟩ ⟨?_, ?_, ?_⟩ s.heap [] _ hP va_S.rf (by rw [zargs_c hf]; exact hl)
  · intro w ty σ pc H locs la hr hrt hn hd hP hS hre
    cases hr
    refine W.zret B.exec B.bytes (B.returns.trans hrt) hn (fun t ht hW => ⟨?_, by rw [ht]; exact hP, hS.F ht, hre⟩) hS.2.2 hd B.notSynchronized
    rw [hrt]
    rfl
  · intro w σ pc H locs la hr hrt hd hP hS hre
    cases hr
    refine W.lret B.exec B.bytes (B.returns.trans hrt) (fun t ht hW => ⟨?_, by rw [ht]; exact hP, hS.F ht, hre⟩) hS.2.2 hd B.notSynchronized
    rw [hrt]
    rfl
  · intro σ pc H locs la hr hrt hd hP hS hre
    cases hr
    refine W.vret B.exec B.bytes (B.returns.trans hrt) (fun t ht hW => ⟨?_, by rw [ht]; exact hP, hS.F ht, hre⟩) hS.2.2 hd B.notSynchronized
    rw [hrt]
    rfl
/-- a constructor calls a plain method of its object -/
theorem kz_call {dC : Nat → ClassId} {dI : Nat → Nat → Nat} {ad : ZN → Nat} {nms : List ZN} {own : String} {mi q idx nL : Nat} {n : ZN} {v : ZV} {σ σ2 : ZS} (hw : zwf ad nms A) (hx : p.tables.exec = Jvm.exec) (hb : c.code = cc) (hml : c.maxLocals = nL) (hown : s.vm.findClass own = some m.cls) (hts : ∀ w ∈ zTB, w.before args s = true) (hK : va_K (dC, dI) vwCl (ztys cA) s) (hn : n ∈ nms) (hk : mi < 215) (h6 : mi ≠ 206) (hpl : zplain mi = true) (hrt : zrtt mi = none) (hnl : 1 ≤ znl mi) (hq : zok n.1 n.2.2 = q + 1) (hcq : zR q = (zyn mi).cls) (hds : (zyn mi).desc = "()V") (hMW : (zMW.any fun f => Nat.beq f.1 mi && Nat.beq f.2.1 0) = true)
    (hlk : (Cond.methodLink own idx (zyn mi)).before args s = true) (hfr : zfr mi + 1 ≤ R.frames) (hlo : 8 + (znl mi + 11) + zlo mi ≤ R.locals) (hce : cells ≤ R.cells) (hsl : slots ≤ R.slots) (hsz : la.size = nL) (hrun : zcall mi [.inr (.inr n)] σ = some (v, σ2)) (hP : va_P (dC, dI) vwCl (zws cA ad nms σ) H) (hS : va_S A s.heap H locs) (hdg : decode cc pc = .ok (.invokevirtual idx, 3))
    (kk : ∀ (H1 : Heap) (locs1 : List Loc), va_P (dC, dI) vwCl (zws cA ad nms σ2) H1 → va_S A s.heap H1 locs1 → W p l e R s m args below meth c H1 locs1 cells slots Q (F0 m (pc + 3) la [])) : W p l e R s m args below meth c H locs cells slots Q (F0 m pc la [.ref (ad n)]) := by
  have h4 := hw.2.2.2.1 n hn
  have ecv : zcv ad .null (.inr (.inr n)) = .ref (ad n) := by
    show (match Nat.beq n.1 7 with | true => Value.null | false => Value.ref (ad n)) = _
    have h7 : Nat.beq n.1 7 = false := by
      rw [← Bool.not_eq_true, Nat.beq_eq]
      omega
    rw [h7]
  obtain ⟨g, hgm, hg⟩ := List.any_eq_true.mp hMW
  simp only [Bool.and_eq_true, Nat.beq_eq] at hg
  obtain ⟨g1, g2⟩ := hg
  obtain ⟨w1, w2, w3⟩ := zcw_at (args := args) (s := s) hts hk h6
  have hinst : (Cond.instanceMethod (zyn mi)).before args s = true := by
    obtain ⟨a1, a2⟩ := zMW_1 g hgm
    have ew : zmw1 g = .instanceMethod (zyn mi) := by unfold zmw1; simp only [g2, g1]
    rw [ew] at a1 a2
    exact hts _ (zTBm a1 a2)
  have hsel : (Cond.selects (zyn mi).cls (zyn mi) (zyn mi)).before args s = true := by
    obtain ⟨a1, a2⟩ := zMW_2 g hgm g2
    rw [g1] at a1 a2
    exact hts _ (zTBm a1 a2)
  have hpar : ∀ sig, parseMethodDescriptor (zyn mi).desc = some sig → 0 = sig.parameters.length := by
    intro sig h
    rw [hds] at h
    have h2 := kz_desc
    rw [h] at h2
    exact (Option.some.inj h2).symm
  have hcell : ∃ cell : Cell, H[ad n]? = some cell ∧ cell.vm.isStatics = false ∧ s.vm.findClass (zyn mi).cls = some cell.cls := by
    obtain ⟨i, -, hi⟩ := zws_at (cA := cA) (ad := ad) σ hn
    rw [zent_o hq] at hi
    have h8 : q < 8 := by
      have := zok_le (j := n.2.2) h4
      omega
    rw [← hcq]
    exact va_recv hK hP (zcl_at _ h8) hi
  have hvs : zvs nms false [.inr (.inr n)] := by
    intro w hw
    rw [List.mem_singleton.mp hw]
    exact Or.inl hn
  have hM : zMet l dC dI cA ad .null nms A false σ mi [.inr (.inr n)] σ v σ2 := kz_met rfl (Or.inl rfl) hw hrun hk (Or.inr hpl) hnl hvs (fun _ _ => rfl)
  have hpre : ∀ U : State, U.heap = H → s.WarmedH U.vm → zPre dC dI cA ad .null nms A false σ [.inr (.inr n)] σ (Value.ref (ad n) :: ([] : List Value)).toArray U := by
    have h := zpre_at (as := [.inr (.inr n)]) (fv := .null) (ρ := σ) (ro := false) hK (fun h => by cases h) hP hS
    rw [show ([.inr (.inr n)] : List ZV).map (zcv ad .null) = [.ref (ad n)] from by rw [List.map_cons, ecv]; rfl] at h
    exact h
  have ee : (zan ad .null (zrtt mi) v).toList ++ ([] : List Value) = [] := by rw [hrt]; rfl
  have hM2 := hM
  refine zcont (rest := []) (va_runV (C := (zyn mi).cls) (b := ad n) (As := []) (rest := []) ⟨hx, hb, hml, hown, hts⟩ hM ⟨⟨rfl, rfl, hfr, hlo, zws_warm hts hk h6, List.mem_cons_self, w1, w2, w3, hpar, hlk⟩, hinst, hsel⟩ ⟨zPre_blind, hcell, hpre⟩ rfl rfl hsz rfl (lv_room (st := []) (Nat.zero_le _)) hdg ⟨hce, hsl⟩) hS (fun H1 locs1 hP1 hS1 _ => ?_)
  rw [ee]
  exact kk H1 locs1 hP1 hS1
end KZ
