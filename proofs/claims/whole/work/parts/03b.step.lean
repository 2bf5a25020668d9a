/-! AN INSTRUCTION OF THE SMALL MACHINE IS ONE OF THE MACHINE: begun by program (wip/gen/gen03b.py) -/
def zdl (i : Instr) (nx pc : Nat) : Nat := match i with
  | .bipush _ => 2
  | .ldc _ => 2
  | .iload _ => 2
  | .lload _ => 2
  | .aload _ => 2
  | .istore _ => 2
  | .lstore _ => 2
  | .astore _ => 2
  | .sipush _ => 3
  | .ldc_w _ => 3
  | .ldc2_w _ => 3
  | .iinc _ _ => 3
  | .goto _ => 3
  | .ifCond _ _ => 3
  | .if_icmp _ _ => 3
  | .getfield _ => 3
  | .putfield _ => 3
  | .getstatic _ => 3
  | .invokestatic _ => 3
  | .invokevirtual _ => 3
  | .tableswitch _ _ _ _ => nx - pc
  | .lookupswitch _ _ => nx - pc
  | _ => 1
def ztabok (pc : Nat) : Int → List Int → List (Int32 × Nat) → Bool
  | _, [], [] => true
  | lo, o :: os, q :: l => decide (q.1.toInt = lo) && (decide ((pc : Int) + o = (q.2 : Int)) && ztabok pc (lo + 1) os l)
  | _, _, _ => false
def zlkok (pc : Nat) : List (Int × Int) → List (Int32 × Nat) → Bool
  | [], [] => true
  | o :: os, q :: l => decide (q.1.toInt = o.1) && (decide ((pc : Int) + o.2 = (q.2 : Int)) && zlkok pc os l)
  | _, _ => false
def zkd (t : Option FieldType) (k : Nat) : Bool := match t, k with
  | none, 0 => true
  | some .int, 1 => true
  | some .boolean, 1 => true
  | some .byte, 1 => true
  | some .char, 1 => true
  | some .long, 2 => true
  | _, _ => false
def zrk (k : Nat) (t : Option FieldType) : Bool := match k, t with
  | 0, some .int => true
  | 1, some .boolean => true
  | 2, some .byte => true
  | 3, some .char => true
  | _, _ => false
/-- methods that look at no cell that nobody writes, nor call such a one: those that constructors call -/
def zplain (mi : Nat) : Bool := Nat.beq mi 0 || (Nat.beq mi 1 || (Nat.beq mi 117 || (Nat.beq mi 118 || Nat.beq mi 120)))
/-- a call fits: the method, its kind, its room -/
def zcall_ok (mi idx : Nat) (x : ZX) (st : Nat) : Bool := (zML.any fun f => Nat.beq f.1 (zow mi) && (Nat.beq f.2.1 idx && (Nat.beq f.2.2.1 x.1 && Nat.beq (f.2.2.2.2.2.1 + (1 - st)) x.2.1))) && ((zMW.any fun f => Nat.beq f.1 x.1 && Nat.beq f.2.1 st) && (zkd (zrtt x.1) x.2.2.1 && (Nat.ble (zfr x.1 + 1) (zfr mi) && (Nat.ble (8 + (znl x.1 + 11) + zlo x.1) (zlo mi) && (Nat.beq (znl0 x) (znl x.1) && (!zplain mi || zplain x.1))))))
def zaxok (mi pc : Nat) (i : Instr) (x : ZX) : Bool := match i with
  | .iconst n => decide (Int32.ofInt n = x.2.2.2.1)
  | .bipush n => decide ((Int8.ofInt n).toInt32 = x.2.2.2.1)
  | .sipush n => decide ((Int16.ofInt n).toInt32 = x.2.2.2.1)
  | .ldc idx => (match x.2.1 with
    | 0 => zCI.any fun f => Nat.beq f.1 (zow mi) && (Nat.beq f.2.1 idx && decide (f.2.2.1 = x.2.2.2.1))
    | _ => Nat.beq (zow mi) 2 && (Nat.beq idx (zSX x.1) && (Nat.blt x.1 7 && !zplain mi)))
  | .ldc_w idx => zCI.any fun f => Nat.beq f.1 (zow mi) && (Nat.beq f.2.1 idx && decide (f.2.2.1 = x.2.2.2.1))
  | .ldc2_w idx => zCJ.any fun f => Nat.beq f.1 (zow mi) && (Nat.beq f.2.1 idx && decide (f.2.2.1 = x.2.2.2.2.1))
  | .lconst n => decide (Int64.ofNat n.val = x.2.2.2.2.1)
  | .iload k => Nat.beq k x.1
  | .lload k => Nat.beq k x.1
  | .aload k => Nat.beq k x.1
  | .iload_n k => Nat.beq k.val x.1
  | .lload_n k => Nat.beq k.val x.1
  | .aload_n k => Nat.beq k.val x.1
  | .istore k => Nat.beq k x.1 && Nat.blt k (znl mi)
  | .lstore k => Nat.beq k x.1 && Nat.blt (k + 1) (znl mi)
  | .astore k => Nat.beq k x.1 && Nat.blt k (znl mi)
  | .istore_n k => Nat.beq k.val x.1 && Nat.blt k.val (znl mi)
  | .lstore_n k => Nat.beq k.val x.1 && Nat.blt (k.val + 1) (znl mi)
  | .astore_n k => Nat.beq k.val x.1 && Nat.blt k.val (znl mi)
  | .iinc k n => Nat.beq k x.1 && (Nat.blt k (znl mi) && decide (Int32.ofInt n = x.2.2.2.1))
  | .goto off => decide ((pc : Int) + off = (x.1 : Int))
  | .ifCond _ off => decide ((pc : Int) + off = (x.1 : Int))
  | .if_icmp _ off => decide ((pc : Int) + off = (x.1 : Int))
  | .tableswitch d lo hi offs => decide ((pc : Int) + d = (x.1 : Int)) && (decide (hi = lo + offs.toList.length - 1) && ztabok pc lo offs.toList x.2.2.2.2.2)
  | .lookupswitch d ps => decide ((pc : Int) + d = (x.1 : Int)) && ((ps.toList.zip (ps.toList.drop 1)).all (fun (a, next) => a.1 < next.1) && zlkok pc ps.toList x.2.2.2.2.2)
  | .getfield idx => zFL.any fun f => Nat.beq f.1 (zow mi) && (Nat.beq f.2.1 idx && (Nat.beq f.2.2.1 x.1 && Nat.beq f.2.2.2.1 x.2.1))
  | .putfield idx => (zFL.any fun f => Nat.beq f.1 (zow mi) && (Nat.beq f.2.1 idx && (Nat.beq f.2.2.1 x.1 && Nat.beq f.2.2.2.1 x.2.1))) && (!(zT x.1 x.2.1).2.2.2 && (Nat.blt x.1 8 && decide ((zT x.1 x.2.1).2.2.1 = match x.2.2.1 with | 0 => "I" | _ => "Z")))
  | .getstatic idx => zGL.any fun f => Nat.beq f.1 (zow mi) && (Nat.beq f.2.1 idx && (Nat.beq f.2.2.1 x.1 && (Nat.ble x.1 2 && !zplain mi)))
  | .invokestatic idx => (match x.2.2.1 with
    | 3 => (zNL.any fun f => Nat.beq f.1 (zow mi) && (Nat.beq f.2.1 idx && Nat.beq f.2.2.1 3)) && (Nat.ble 1 (zfr mi) && Nat.ble 28 (zlo mi))
    | 4 => (zNL.any fun f => Nat.beq f.1 (zow mi) && (Nat.beq f.2.1 idx && Nat.beq f.2.2.1 4)) && (Nat.ble 1 (zfr mi) && Nat.ble 28 (zlo mi))
    | 5 => (zNL.any fun f => Nat.beq f.1 (zow mi) && (Nat.beq f.2.1 idx && Nat.beq f.2.2.1 5)) && (Nat.ble 1 (zfr mi) && Nat.ble 28 (zlo mi))
    | 9 => true
    | _ => zcall_ok mi idx x 1)
  | .invokevirtual idx => (match x.2.2.1 with
    | 9 => true
    | _ => zcall_ok mi idx x 0 && (Nat.ble (zrc0 x) 9 && (Nat.ble 1 (zrc0 x) && decide (zR (zrc0 x - 1) = (zyn x.1).cls))))
  | .ireturn => zrk x.1 (zrtt mi)
  | .lreturn => decide (zrtt mi = some .long)
  | .return_ => (zrtt mi).isNone
  | _ => true
def zan (ad : ZN → Nat) (fv : Value) (rt : Option FieldType) (v : ZV) : Option Value := match rt with
  | none => none
  | some _ => some (zcv ad fv v)
def zPre (dC : Nat → ClassId) (dI : Nat → Nat → Nat) (cA : Nat → ClassId) (ad : ZN → Nat) (fv : Value) (nms : List ZN) (A : Nat → Prop) (ro : Bool) (ρ : ZS) (as : List ZV) (σ : ZS) : Array Value → State → Prop := va_Pc (as.map (zcv ad fv)) (fun U => va_P (dC, dI) vwCl (zws cA ad nms σ) U.heap ∧ va_K (dC, dI) vwCl (ztys cA) U ∧ (ro = true → zRO ad fv ρ A U U.heap))
def zPost (dC : Nat → ClassId) (dI : Nat → Nat → Nat) (cA : Nat → ClassId) (ad : ZN → Nat) (fv : Value) (nms : List ZN) (A : Nat → Prop) (ρ : ZS) (rt : Option FieldType) (v : ZV) (σ : ZS) : Array Value → State → Outcome → State → Prop := fun _ st o t => o = .returned (zan ad fv rt v) ∧ va_P (dC, dI) vwCl (zws cA ad nms σ) t.heap ∧ va_F A st t ∧ zre ρ σ
def zrm (mi : Nat) : Room := { frames := zfr mi, cells := 0, slots := 0, locals := zlo mi }
/-- a method's contract: from these arguments and this store it returns, with this answer and that store -/
def zMet (l : Launch) (dC : Nat → ClassId) (dI : Nat → Nat → Nat) (cA : Nat → ClassId) (ad : ZN → Nat) (fv : Value) (nms : List ZN) (A : Nat → Prop) (ro : Bool) (ρ : ZS) (mi : Nat) (as : List ZV) (σ : ZS) (v : ZV) (σ' : ZS) : Prop :=
  Met l (zyn mi) (Cond.code (zyn mi) (zbt mi) (znl mi) (zrtt mi) :: zTB) (zrm mi) (zPre dC dI cA ad fv nms A ro ρ as σ) (zPost dC dI cA ad fv nms A ρ (zrtt mi) v σ') 0 0 A
/-- what holds in a method's frame -/
def zCtx (p : Program) (R : Room) (s : State) (m : MethodId) (args : Array Value) (c : Code) (cells slots : Nat) (dC : Nat → ClassId) (dI : Nat → Nat → Nat) (cA : Nat → ClassId) (ad : ZN → Nat) (fv : Value) (A : Nat → Prop) (ro : Bool) (ρ : ZS) (mi : Nat) : Prop :=
  p.tables.exec = Jvm.exec ∧ c.code = zbt mi ∧ c.maxLocals = znl mi ∧ s.vm.findClass (zon (zow mi)) = some m.cls ∧ (∀ w ∈ zTB, w.before args s = true) ∧ zfr mi ≤ R.frames ∧ zlo mi ≤ R.locals ∧ cells ≤ R.cells ∧ slots ≤ R.slots ∧ va_K (dC, dI) vwCl (ztys cA) s ∧ (ro = true → zRO ad fv ρ A s s.heap)
section ZSTEP
variable {p : Program} {l : Launch} {e : Env} {R : Room} {s : State} {m : MethodId} {args : Array Value} {below : List Frame} {meth : Method} {c : Code} {cells slots : Nat} {Q : State → Prop}
variable {dC : Nat → ClassId} {dI : Nat → Nat → Nat} {cA : Nat → ClassId} {ad : ZN → Nat} {fv : Value} {nms : List ZN} {A : Nat → Prop} {ro : Bool} {ρ : ZS} {mi : Nat}
theorem zPre_blind {as : List ZV} {σ : ZS} : FrameBlind (zPre dC dI cA ad fv nms A ro ρ as σ) := fun a U g mk h => ⟨h.1, h.2.1, va_K.moved (u := U) (U := U.calling g mk a) (Vm.Alike.refl U.vm) h.2.2.1, fun hr => zRO.same (u := U) (U := U.calling g mk a) rfl (h.2.2.2 hr)⟩
/-- behind a call -/
theorem zcont {mi2 : Nat} {v : ZV} {σ2 : ZS} {H : Heap} {locs : List Loc} {la : Array Slot} {pc : Nat} {st0 rest : List Value} {a : Array Value}
    (hr : va_Run p l e R s m args below meth c H locs cells slots 0 0 (F0 m pc la st0) rest (zPost dC dI cA ad fv nms A ρ (zrtt mi2) v σ2 a) A) (hS : va_S A s.heap H locs)
    (kk : ∀ (H1 : Heap) (locs1 : List Loc), va_P (dC, dI) vwCl (zws cA ad nms σ2) H1 → va_S A s.heap H1 locs1 → zre ρ σ2 → W p l e R s m args below meth c H1 locs1 cells slots Q (F0 m (pc + 3) la ((zan ad fv (zrtt mi2) v).toList ++ rest))) : W p l e R s m args below meth c H locs cells slots Q (F0 m pc la st0) := by
  intro T hT X
  obtain ⟨w, st₀, t, T', L, h0, X', hL, e1, e2, ⟨hv, hp, ⟨hz, hk⟩, hre2⟩, st⟩ := hr T hT X
  cases hv
  rw [h0] at hz hk
  obtain ⟨t2, a1, b1⟩ := kk T'.heap (locs ++ L) (by rw [e1]; exact hp)
    ⟨Nat.le_trans hS.1 (by rw [e1]; exact hz), fun q h1 h2 => by rw [e1, hk q (Nat.lt_of_lt_of_le h1 hS.1) h2]; exact hS.2.1 q h1 h2, fun q hq => by
      rcases List.mem_append.mp hq with h | h
      · exact hS.2.2 q h
      · exact hL q h⟩ hre2 T' rfl X'
  exact ⟨t2, st t2 a1, b1⟩
/-- the machine comes, from here, to what is wanted -/
def zAW (p : Program) (l : Launch) (e : Env) (R : Room) (s : State) (m : MethodId) (args : Array Value) (below : List Frame) (meth : Method) (c : Code) (cells slots : Nat) (Q : State → Prop) (dC : Nat → ClassId) (dI : Nat → Nat → Nat) (cA : Nat → ClassId) (ad : ZN → Nat) (fv : Value) (nms : List ZN) (A : Nat → Prop) (mi : Nat) (pc : Nat) (ls : ZL) (st : List ZV) (σ : ZS) : Prop :=
  ∀ (H : Heap) (locs : List Loc) (la : Array Slot), va_P (dC, dI) vwCl (zws cA ad nms σ) H → va_S A s.heap H locs → lv_has la (znl mi) (zlc ad fv ls) → W p l e R s m args below meth c H locs cells slots Q (F0 m pc la (st.map (zcv ad fv)))
theorem zpre_at {as : List ZV} {σ : ZS} {H : Heap} {locs : List Loc} (hK : va_K (dC, dI) vwCl (ztys cA) s) (hro : ro = true → zRO ad fv ρ A s s.heap) (hP : va_P (dC, dI) vwCl (zws cA ad nms σ) H) (hS : va_S A s.heap H locs) : ∀ U : State, U.heap = H → s.WarmedH U.vm → zPre dC dI cA ad fv nms A ro ρ as σ (as.map (zcv ad fv)).toArray U := by
  intro U hU hW
  refine ⟨rfl, by rw [hU]; exact hP, va_K.moved hW.alike hK, fun hr => ?_⟩
  rw [hU]
  exact zRO.moved hW ((hro hr).kept hS.2.1)
/-- the words of a call -/
theorem zcw_at {k : Nat} (hts : ∀ w ∈ zTB, w.before args s = true) (hk : k < 215) (h6 : k ≠ 206) : (Cond.code (zyn k) (zbt k) (znl k) (zrtt k)).before args s = true ∧ (Cond.initialized (zyn k).cls).before args s = true ∧ ((zyn k).cls ≠ "java/lang/invoke/MethodHandle" ∧ (zyn k).cls ≠ "java/lang/invoke/VarHandle") := by
  obtain ⟨f, hf, h⟩ := List.any_eq_true.mp (zMW_all k hk h6)
  have hfk : f.1 = k := Nat.eq_of_beq_eq_true h
  subst hfk
  obtain ⟨h1, h2⟩ := zMW_3 f hf
  exact ⟨hts _ (zcw_all _ hk h6), hts _ (zTBm h1 h2), (zm_plain _ hk).2⟩
theorem zws_warm {k : Nat} (hts : ∀ w ∈ zTB, w.before args s = true) (hk : k < 215) (h6 : k ≠ 206) : ∀ w ∈ (Cond.code (zyn k) (zbt k) (znl k) (zrtt k) :: zTB), ∀ (a' : Array Value) (U : State), s.WarmedH U.vm → w.before a' U = true := by
  intro w hw a' U hW
  rcases List.mem_cons.mp hw with rfl | hw
  · exact zTB_warm hts _ (zcw_all _ hk h6) a' U hW
  · exact zTB_warm hts _ hw a' U hW

/-- a static call -/
theorem zstep_S {idx pc : Nat} {x : ZX} {as r : List ZV} {σ σ2 : ZS} {v : ZV} {H : Heap} {locs : List Loc} {la : Array Slot} {lv : List (Nat × Value)} (hf : fv.category = 1) (hc : zCtx p R s m args c cells slots dC dI cA ad fv A ro ρ mi) (hax : zcall_ok mi idx x 1 = true) (hd : decode (zbt mi) pc = .ok (.invokestatic idx, 3)) (hn : as.length = x.2.1) (h8 : zsum r ≤ 8)
    (hM : x.1 < 215 → x.1 ≠ 206 → zMet l dC dI cA ad fv nms A ro ρ x.1 as σ v σ2) (hP : va_P (dC, dI) vwCl (zws cA ad nms σ) H) (hS : va_S A s.heap H locs) (hl : lv_has la (znl mi) lv)
    (kk : ∀ (H1 : Heap) (locs1 : List Loc), va_P (dC, dI) vwCl (zws cA ad nms σ2) H1 → va_S A s.heap H1 locs1 → zre ρ σ2 → W p l e R s m args below meth c H1 locs1 cells slots Q (F0 m (pc + 3) la ((zan ad fv (zrtt x.1) v).toList ++ r.map (zcv ad fv)))) : W p l e R s m args below meth c H locs cells slots Q (F0 m pc la ((as.reverse ++ r).map (zcv ad fv))) := by
  obtain ⟨hx, hb, hml, hown, hts, hfr, hlo, hce, hsl, hK, hro⟩ := hc
  unfold zcall_ok at hax
  simp only [Bool.and_eq_true, Nat.ble_eq, Nat.beq_eq, List.any_eq_true] at hax
  obtain ⟨⟨f, hfm, e1, e2, e3, e4⟩, ⟨g, hgm, g1, g2⟩, -, q1, q2, -, -⟩ := hax
  obtain ⟨d1, hk, h6⟩ := zML_desc f hfm
  rw [e3] at d1 hk h6
  obtain ⟨w1, w2, w3⟩ := zcw_at (args := args) (s := s) hts hk h6
  have hstat : (Cond.static (zyn x.1)).before args s = true := by
    obtain ⟨a1, a2⟩ := zMW_1 g hgm
    have ew : zmw1 g = .static (zyn x.1) := by unfold zmw1; simp only [g2, g1]
    rw [ew] at a1 a2
    exact hts _ (zTBm a1 a2)
  have hpar : ∀ sig, parseMethodDescriptor (zyn x.1).desc = some sig → as.length = sig.parameters.length := by
    intro sig hs
    rw [hs] at d1
    have := Option.some.inj d1
    dsimp only at this
    omega
  obtain ⟨l1, l2⟩ := zML_ok f hfm
  have hst : (as.reverse ++ r).map (zcv ad fv) = (as.map (zcv ad fv)).reverse ++ r.map (zcv ad fv) := by rw [List.map_append, List.map_reverse]
  have hroom := lv_room (pc := pc) (m := m) (ls := la) (rest := (as.reverse ++ r).map (zcv ad fv)) (st := r.map (zcv ad fv)) (by rw [zsum_c hf]; exact h8)
  have hlen : (as.map (zcv ad fv)).length = as.length := List.length_map _
  cases hnest : f.2.2.2.1 with
  | true =>
    have ew : zmlw f = .methodLinkNest (zon (zow mi)) idx (zyn x.1) "SeatCast" := by unfold zmlw; simp only [hnest, e1, e2, e3]
    rw [ew] at l1 l2
    exact zcont (va_runSN (As := as.map (zcv ad fv)) (rest := r.map (zcv ad fv)) ⟨hx, hb, hml, hown, hts⟩ (hM hk h6) ⟨⟨⟨rfl, rfl, Nat.le_trans q1 hfr, Nat.le_trans q2 hlo, zws_warm hts hk h6, List.mem_cons_self⟩, w1, w2, w3, hpar, hts _ (zTBm l1 l2)⟩, hstat, trivial⟩ ⟨zPre_blind, zpre_at hK hro hP hS⟩ rfl hlen hl.1 hst hroom hd ⟨hce, hsl⟩) hS kk
  | false =>
    have ew : zmlw f = .methodLink (zon (zow mi)) idx (zyn x.1) := by unfold zmlw; simp only [hnest, e1, e2, e3]
    rw [ew] at l1 l2
    exact zcont (va_runS (As := as.map (zcv ad fv)) (rest := r.map (zcv ad fv)) ⟨hx, hb, hml, hown, hts⟩ (hM hk h6) ⟨⟨rfl, rfl, Nat.le_trans q1 hfr, Nat.le_trans q2 hlo, zws_warm hts hk h6, List.mem_cons_self, w1, w2, w3, hpar, hts _ (zTBm l1 l2)⟩, hstat⟩ ⟨zPre_blind, zpre_at hK hro hP hS⟩ rfl hlen hl.1 hst hroom hd ⟨hce, hsl⟩) hS kk
/-- whom a call is for -/
theorem zrecv {n : ZN} {σ : ZS} {H : Heap} {locs : List Loc} {k : Nat} (hw : zwf ad nms A) (hK : va_K (dC, dI) vwCl (ztys cA) s) (hro : ro = true → zRO ad fv ρ A s s.heap) (hP : va_P (dC, dI) vwCl (zws cA ad nms σ) H) (hS : va_S A s.heap H locs) (hv : zvd nms ro (.inr (.inr n))) (hk : zok n.1 n.2.2 = k) (h1 : 1 ≤ k) : zcv ad fv (.inr (.inr n)) = .ref (ad n) ∧ ∃ cell : Cell, H[ad n]? = some cell ∧ cell.vm.isStatics = false ∧ s.vm.findClass (zR (k - 1)) = some cell.cls := by
  rcases hv with hv | ⟨hr, hv⟩
  · have h4 := hw.2.2.2.1 n hv
    refine ⟨?_, ?_⟩
    · show (match Nat.beq n.1 7 with | true => fv | false => Value.ref (ad n)) = _
      have : Nat.beq n.1 7 = false := by
        rw [← Bool.not_eq_true, Nat.beq_eq]
        omega
      rw [this]
    · obtain ⟨i, -, hi⟩ := zws_at (cA := cA) (ad := ad) σ hv
      have hq : zok n.1 n.2.2 = (k - 1) + 1 := by omega
      rw [zent_o hq] at hi
      have h8 : k - 1 < 8 := by
        have := zok_le (j := n.2.2) h4
        omega
      exact va_recv hK hP (zcl_at _ h8) hi
  · obtain ⟨c, g, j⟩ := n
    rcases hv with e | e | ⟨e1, e2, e3⟩ | e
    · cases e
      exact absurd hk.symm (by show ¬ k = 0; omega)
    · cases e
      exact absurd hk.symm (by show ¬ k = 0; omega)
    · dsimp only at e1 e2 e3 hk
      subst e1
      rcases e3 with rfl | rfl
      · have hk9 : k = 9 := hk.symm
        subst hk9
        refine ⟨rfl, ?_⟩
        obtain ⟨c1, -⟩ := ((hro hr).kept hS.2.1).2.2.1 g e2
        obtain ⟨cell, b1, b2, b3, -⟩ := c1
        exact ⟨cell, b1, b2, b3⟩
      · exact absurd hk.symm (by show ¬ k = 0; omega)
    · dsimp only at e hk
      subst e
      exact absurd hk.symm (by show ¬ k = 0; omega)
theorem zstep_V {idx pc : Nat} {x : ZX} {as r : List ZV} {σ σ2 : ZS} {v : ZV} {H : Heap} {locs : List Loc} {la : Array Slot} {lv : List (Nat × Value)} (hf : fv.category = 1) (hw : zwf ad nms A) (hc : zCtx p R s m args c cells slots dC dI cA ad fv A ro ρ mi) (hax : (zcall_ok mi idx x 0 && (Nat.ble (zrc0 x) 9 && (Nat.ble 1 (zrc0 x) && decide (zR (zrc0 x - 1) = (zyn x.1).cls)))) = true) (hd : decode (zbt mi) pc = .ok (.invokevirtual idx, 3)) (hn : as.length = x.2.1) (h8 : zsum r ≤ 8) (hrc : zrv as (zrc0 x) = true) (hvs : zvs nms ro as)
    (hM : x.1 < 215 → x.1 ≠ 206 → zMet l dC dI cA ad fv nms A ro ρ x.1 as σ v σ2) (hP : va_P (dC, dI) vwCl (zws cA ad nms σ) H) (hS : va_S A s.heap H locs) (hl : lv_has la (znl mi) lv)
    (kk : ∀ (H1 : Heap) (locs1 : List Loc), va_P (dC, dI) vwCl (zws cA ad nms σ2) H1 → va_S A s.heap H1 locs1 → zre ρ σ2 → W p l e R s m args below meth c H1 locs1 cells slots Q (F0 m (pc + 3) la ((zan ad fv (zrtt x.1) v).toList ++ r.map (zcv ad fv)))) : W p l e R s m args below meth c H locs cells slots Q (F0 m pc la ((as.reverse ++ r).map (zcv ad fv))) := by
  obtain ⟨hx, hb, hml, hown, hts, hfr, hlo, hce, hsl, hK, hro⟩ := hc
  unfold zcall_ok at hax
  simp only [Bool.and_eq_true, Nat.ble_eq, Nat.beq_eq, List.any_eq_true, decide_eq_true_eq] at hax
  obtain ⟨⟨⟨f, hfm, e1, e2, e3, e4⟩, ⟨g, hgm, g1, g2⟩, -, q1, q2, -, -⟩, -, r1, r2⟩ := hax
  obtain ⟨d1, hk, h6⟩ := zML_desc f hfm
  rw [e3] at d1 hk h6
  obtain ⟨w1, w2, w3⟩ := zcw_at (args := args) (s := s) hts hk h6
  have hinst : (Cond.instanceMethod (zyn x.1)).before args s = true := by
    obtain ⟨a1, a2⟩ := zMW_1 g hgm
    have ew : zmw1 g = .instanceMethod (zyn x.1) := by unfold zmw1; simp only [g2, g1]
    rw [ew] at a1 a2
    exact hts _ (zTBm a1 a2)
  have hsel : (Cond.selects (zyn x.1).cls (zyn x.1) (zyn x.1)).before args s = true := by
    obtain ⟨a1, a2⟩ := zMW_2 g hgm g2
    rw [g1] at a1 a2
    exact hts _ (zTBm a1 a2)
  match as, hrc with
  | .inr (.inr n) :: At, hrc =>
    have hzk : zok n.1 n.2.2 = zrc0 x := Nat.eq_of_beq_eq_true hrc
    obtain ⟨ecv, hcell⟩ := zrecv hw hK hro hP hS (hvs _ List.mem_cons_self) hzk r1
    rw [r2] at hcell
    have hpar : ∀ sig, parseMethodDescriptor (zyn x.1).desc = some sig → At.length = sig.parameters.length := by
      intro sig hs
      rw [hs] at d1
      have := Option.some.inj d1
      have h2 : At.length + 1 = x.2.1 := hn
      dsimp only at this
      omega
    obtain ⟨l1, l2⟩ := zML_ok f hfm
    have hst : ((.inr (.inr n) :: At).reverse ++ r).map (zcv ad fv) = (At.map (zcv ad fv)).reverse ++ .ref (ad n) :: r.map (zcv ad fv) := by
      rw [← ecv, List.reverse_cons, List.append_assoc, List.map_append, List.map_reverse]
      rfl
    have hroom := lv_room (pc := pc) (m := m) (ls := la) (rest := ((.inr (.inr n) :: At).reverse ++ r).map (zcv ad fv)) (st := r.map (zcv ad fv)) (by rw [zsum_c hf]; exact h8)
    have hlen : (At.map (zcv ad fv)).length = At.length := List.length_map _
    have hpre : ∀ U : State, U.heap = H → s.WarmedH U.vm → zPre dC dI cA ad fv nms A ro ρ (.inr (.inr n) :: At) σ (.ref (ad n) :: At.map (zcv ad fv)).toArray U := by
      rw [← ecv]
      exact zpre_at hK hro hP hS
    cases hnest : f.2.2.2.1 with
    | true =>
      have ew : zmlw f = .methodLinkNest (zon (zow mi)) idx (zyn x.1) "SeatCast" := by unfold zmlw; simp only [hnest, e1, e2, e3]
      rw [ew] at l1 l2
      exact zcont (va_runVN (C := (zyn x.1).cls) (b := ad n) (As := At.map (zcv ad fv)) (rest := r.map (zcv ad fv)) ⟨hx, hb, hml, hown, hts⟩ (hM hk h6) ⟨⟨⟨rfl, rfl, Nat.le_trans q1 hfr, Nat.le_trans q2 hlo, zws_warm hts hk h6, List.mem_cons_self⟩, w1, w2, w3, hpar, hts _ (zTBm l1 l2)⟩, hinst, hsel⟩ ⟨zPre_blind, hcell, hpre⟩ rfl hlen hl.1 hst hroom hd ⟨hce, hsl⟩) hS kk
    | false =>
      have ew : zmlw f = .methodLink (zon (zow mi)) idx (zyn x.1) := by unfold zmlw; simp only [hnest, e1, e2, e3]
      rw [ew] at l1 l2
      exact zcont (va_runV (C := (zyn x.1).cls) (b := ad n) (As := At.map (zcv ad fv)) (rest := r.map (zcv ad fv)) ⟨hx, hb, hml, hown, hts⟩ (hM hk h6) ⟨⟨rfl, rfl, Nat.le_trans q1 hfr, Nat.le_trans q2 hlo, zws_warm hts hk h6, List.mem_cons_self, w1, w2, w3, hpar, hts _ (zTBm l1 l2)⟩, hinst, hsel⟩ ⟨zPre_blind, hcell, hpre⟩ rfl hlen hl.1 hst hroom hd ⟨hce, hsl⟩) hS kk
end ZSTEP
