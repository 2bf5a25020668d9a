/-- a night of the class, whoever is away, whatever is cut -/
theorem L_play {σ : ZS} {g P M N L : Nat} {aw : Nat → Bool} {cut : Nat → Bool} {away cuts : Int32} (w : zNW (σ 1 g) P M N L) (haw : ∀ p, p < N → zbit away p = zb (aw p)) (hcut : ∀ i, i < L → zbit cuts i = zb (cut i)) :
    ∃ τ, zcall 24 [zA 0 0 7, zA 1 g 0, zI away, zI cuts] σ = some (zI (nI (zspn (σ 1 g) aw N cut L)), τ) ∧ zfrm zPX σ τ ∧ (∀ k, k < L → τ 0 0 8 k = zsp (σ 1 g) aw N cut k) ∧ τ 0 0 7 1 = nI (zmk (zspk (σ 1 g) aw N cut) L) := by
  rw [E_Night_play]
  have hh : zup σ 0 0 7 1 0 1 g = σ 1 g := funext fun j => zup_o (by omega)
  obtain ⟨τ, t1, t2, t3⟩ := L_play_15 w haw hcut L 0 (zup σ 0 0 7 1 0) (by omega) hh (fun k hk => by omega) (by rw [zup_m, zru_s]; rfl)
  exact ⟨τ, t1, zfrm_t (zfrm_up zfrm_r ⟨rfl, rfl, Or.inl rfl⟩) t2, t3⟩
/-! the reference's night -/
def zMX (c g j : Nat) : Prop := c = 3 ∧ g = 0 ∧ j = 8
theorem L_flag0 (σ : ZS) : zcall 136 [zI 0] σ = some (zI 0, σ) := L_flag σ false
theorem L_flag1 (σ : ZS) : zcall 136 [zI 1] σ = some (zI 1, σ) := L_flag σ true
theorem L_nb_162 {σ : ZS} {i : Nat} (i8 : i < 8) (x1 b : Int32) (n : Nat) : zev 165 162 [(0, zA 3 0 0), (1, zI x1), (2, zI (nI n)), (6, zI (nI i))] [zI b] σ = zev 165 14 [(0, zA 3 0 0), (1, zI x1), (2, zI (nI (n + if σ 3 0 8 i = -4 then 0 else 1))), (3, zI (σ 3 0 8 i)), (4, zI 0), (5, zI b), (6, zI (nI (i + 1)))] [] σ := by
  rw [E_M_nightBut_162, zck_nI i8 (by decide), nI_clamp (by omega), L_flag0, L_flag1, zbI_some, zbI_some, nI_1]
  by_cases h : σ 3 0 8 i = -4
  · rw [if_pos h, if_pos h]
    rw [show nI n + 0 = nI (n + 0) from nI_add ..]
  · rw [if_neg h, if_neg h]
    rw [show nI n + 1 = nI (n + 1) from nI_1 ..]
theorem zMN_8 {σ : ZS} {h : Nat → Nat → Int32} {aw : Nat → Bool} {P N L i : Nat} {v : Int32} (m : zMN σ h aw P N L) : zMN (zup σ 3 0 8 i v) h aw P N L := by
  unfold zMN
  rw [zup_o (by decide), zup_o (by decide), zup_o (by decide)]
  exact m
theorem L_nb_104 {σ : ZS} {h : Nat → Nat → Int32} {P M N L i : Nat} {aw : Nat → Bool} {ahead : Int32} (w : zNW h P M N L) (m : zMN σ h aw P N L) (hi : i < L) (sl o lo : Bool) (hah : o = false → zah h aw M N ahead) (x1 : Int32) (n : Nat) {v : Int32} (hv : v = if sl = true then -4 else zbest h aw i (if o = true then -4 else ahead) N) :
    zev 165 104 [(0, zA 3 0 0), (1, zI x1), (2, zI (nI n)), (3, zI ahead), (4, zI (zb o)), (5, zI (zb lo)), (6, zI (nI i))] [zI (zb sl)] σ = zev 165 14 [(0, zA 3 0 0), (1, zI x1), (2, zI (nI (n + if v = -4 then 0 else 1))), (3, zI v), (4, zI 0), (5, zI (zb (lo || decide (v = -4)))), (6, zI (nI (i + 1)))] [] (zup σ 3 0 8 i v) := by
  have i8 : i < 8 := by have := w.2.2.2.1; omega
  have hrow : ∀ v : Int32, zup σ 3 0 8 i v 3 0 8 i = v := fun v => by rw [zup_m, zru_s]
  have fin : ∀ b, b = zb (lo || decide (v = -4)) → zev 165 162 [(0, zA 3 0 0), (1, zI x1), (2, zI (nI n)), (6, zI (nI i))] [zI b] (zup σ 3 0 8 i v) = zev 165 14 [(0, zA 3 0 0), (1, zI x1), (2, zI (nI (n + if v = -4 then 0 else 1))), (3, zI v), (4, zI 0), (5, zI (zb (lo || decide (v = -4)))), (6, zI (nI (i + 1)))] [] (zup σ 3 0 8 i v) := by
    intro b hb
    rw [L_nb_162 i8, hrow, hb]
  have fin2 : (if zb lo = 0 then zck (nI i) 8 (if v = -4 then zev 165 162 [(0, zA 3 0 0), (1, zI x1), (2, zI (nI n)), (6, zI (nI i))] [zI 1] (zup σ 3 0 8 i v) else zev 165 162 [(0, zA 3 0 0), (1, zI x1), (2, zI (nI n)), (6, zI (nI i))] [zI 0] (zup σ 3 0 8 i v)) else zev 165 162 [(0, zA 3 0 0), (1, zI x1), (2, zI (nI n)), (6, zI (nI i))] [zI 1] (zup σ 3 0 8 i v)) = zev 165 14 [(0, zA 3 0 0), (1, zI x1), (2, zI (nI (n + if v = -4 then 0 else 1))), (3, zI v), (4, zI 0), (5, zI (zb (lo || decide (v = -4)))), (6, zI (nI (i + 1)))] [] (zup σ 3 0 8 i v) := by
    rw [zif_b, zck_nI i8 (by decide)]
    cases lo with
    | true =>
      rw [if_pos rfl]
      exact fin 1 rfl
    | false =>
      rw [if_neg (by decide)]
      by_cases hz : v = -4
      · rw [if_pos hz]
        exact fin 1 (by rw [decide_eq_true hz]; rfl)
      · rw [if_neg hz]
        exact fin 0 (by rw [decide_eq_false hz]; rfl)
  rw [E_M_nightBut_104, zck_nI i8 (by decide), nI_clamp (by omega)]
  dsimp only
  cases sl with
  | true =>
    rw [if_neg (show ¬ zb true = 0 by decide)]
    rw [if_pos rfl] at hv
    rw [hv] at fin2 ⊢
    rw [hrow]
    exact fin2
  | false =>
    rw [if_pos (show zb false = 0 by decide)]
    rw [if_neg (by decide)] at hv
    cases o with
    | true =>
      rw [if_neg (show ¬ zb true = 0 by decide), L_mSpeakerOf w m hi (Or.inl rfl), zbI_some]
      rw [if_pos rfl] at hv
      rw [zck_nI i8 (by decide), ← hv]
      rw [hrow]
      exact fin2
    | false =>
      rw [if_pos (show zb false = 0 by decide), L_mSpeakerOf w m hi (hah rfl), zbI_some]
      rw [if_neg (by decide)] at hv
      rw [zck_nI i8 (by decide), ← hv]
      rw [hrow]
      exact fin2
/-- the reference's state tells the same as (whom one answers, is the thread lost) -/
def znr (h : Nat → Nat → Int32) (s : Int32 × Bool) (o : Bool) (ahead : Int32) (lo : Bool) : Prop :=
  (o = true ∧ s = (-4, false)) ∨ (o = false ∧ ahead = s.1 ∧ (lo && decide (h 0 2 = 0)) = s.2)
theorem L_nightBut_14 {h : Nat → Nat → Int32} {P M N L : Nat} {aw : Nat → Bool} {cut : Nat → Bool} {cuts : Int32} (w : zNW h P M N L) (hcut : ∀ i, i < L → zbit cuts i = zb (cut i)) : ∀ (d i : Nat) (σ : ZS) (o lo : Bool) (ahead : Int32), i + d = L → zMN σ h aw P N L → znr h (zns h aw N cut i) o ahead lo → (∀ k, k < i → σ 3 0 8 k = zsp h aw N cut k) →
    ∃ τ, zev 165 14 [(0, zA 3 0 0), (1, zI cuts), (2, zI (nI (zct (zspk h aw N cut) i))), (3, zI ahead), (4, zI (zb o)), (5, zI (zb lo)), (6, zI (nI i))] [] σ = some (zI (nI (zspn h aw N cut L)), τ) ∧ zfrm zMX σ τ ∧ ∀ k, k < L → τ 3 0 8 k = zsp h aw N cut k
  | 0, i, σ, o, lo, ahead, hi, m, hr, hs => by
    obtain rfl : i = L := by omega
    have hL : i ≤ 8 := w.2.2.2.1
    refine ⟨σ, ?_, zfrm_r, hs⟩
    rw [E_M_nightBut_14, m.2.2.1, if_neg (nI_nlt (by omega) (by omega))]
    rfl
  | d + 1, i, σ, o, lo, ahead, hi, m, hr, hs => by
    have hL : L ≤ 8 := w.2.2.2.1
    have hiL : i < L := by omega
    have i8 : i < 8 := by omega
    have hah := zah_at (i := i) (zah_ns (cut := cut) (aw := aw) w i)
    have hcb : (cuts >>> (nI i &&& 31)) &&& 1 = zb (cut i) := hcut i hiL
    -- behind the opening
    have key : ∀ o2 : Bool, znr h (zat' h (zns h aw N cut i) i) o2 ahead lo → ∃ τ, zev 165 47 [(0, zA 3 0 0), (1, zI cuts), (2, zI (nI (zct (zspk h aw N cut) i))), (3, zI ahead), (5, zI (zb lo)), (6, zI (nI i))] [zI (zb o2)] σ = some (zI (nI (zspn h aw N cut L)), τ) ∧ zfrm zMX σ τ ∧ ∀ k, k < L → τ 3 0 8 k = zsp h aw N cut k := by
      intro o2 hr2
      have hrow4 : ∀ v, v = zsp h aw N cut i → ∀ k, k < i + 1 → zup (zup σ 3 0 8 i (-4)) 3 0 8 i v 3 0 8 k = zsp h aw N cut k := by
        intro v hv k hk
        rw [zup_m]
        by_cases hki : k = i
        · rw [hki, zru_s, hv]
        · rw [zru_o hki, zup_m, zru_o hki]; exact hs k (by omega)
      rw [E_M_nightBut_47, zck_nI i8 (by decide), nI_clamp (by omega)]
      dsimp only
      rw [hcb]
      cases hc : cut i with
      | true =>
        rw [if_neg (show ¬ zb true = 0 by decide), nI_1]
        obtain ⟨τ, t1, t2, t3⟩ := L_nightBut_14 w hcut d (i + 1) (zup σ 3 0 8 i (-4)) o2 lo ahead (by omega) (zMN_8 m) (by rw [zns_1 hc]; exact hr2) (by
          intro k hk
          rw [zup_m]
          by_cases hki : k = i
          · rw [hki, zru_s, zsp_1 hc]
          · rw [zru_o hki]; exact hs k (by omega))
        refine ⟨τ, ?_, zfrm_t (zfrm_up zfrm_r ⟨rfl, rfl, rfl⟩) t2, t3⟩
        rw [← t1]
        have e : zct (zspk h aw N cut) (i + 1) = zct (zspk h aw N cut) i := by
          show zct (zspk h aw N cut) i + (if zspk h aw N cut i = true then 1 else 0) = _
          rw [if_neg]
          rfl
          unfold zspk
          rw [zsp_1 hc]
          decide
        rw [e]
      | false =>
        rw [if_pos (show zb false = 0 by decide)]
        have hlaw : zup σ 3 0 8 i (-4) 3 0 2 36 = h 0 2 := by
          rw [zup_o (by decide)]
          exact m.2.2.2.2.2.2.2
        -- what is common
        have fin : ∀ (sl lo1 : Bool), lo1 = (lo && !o2) → sl = (lo1 && decide (h 0 2 = 0)) → ∃ τ, zev 165 104 [(0, zA 3 0 0), (1, zI cuts), (2, zI (nI (zct (zspk h aw N cut) i))), (3, zI ahead), (4, zI (zb o2)), (5, zI (zb lo1)), (6, zI (nI i))] [zI (zb sl)] (zup σ 3 0 8 i (-4)) = some (zI (nI (zspn h aw N cut L)), τ) ∧ zfrm zMX σ τ ∧ ∀ k, k < L → τ 3 0 8 k = zsp h aw N cut k := by
          intro sl lo1 hlo1 hsl
          have hsl2 : sl = (zat' h (zns h aw N cut i) i).2 := by
            rcases hr2 with ⟨e1, e2⟩ | ⟨e1, e2, e3⟩
            · rw [e2, hsl, hlo1, e1]; simp
            · rw [← e3, hsl, hlo1, e1]; simp
          have hv : zsp h aw N cut i = if sl = true then -4 else zbest h aw i (if o2 = true then -4 else ahead) N := by
            rw [zsp_2 hc, ← hsl2]
            rcases hr2 with ⟨e1, e2⟩ | ⟨e1, e2, e3⟩
            · rw [e2, e1]; rfl
            · rw [e1, e2]; rfl
          rw [L_nb_104 w (zMN_8 m) hiL sl o2 lo1 (by
            intro ho
            rcases hr2 with ⟨e1, e2⟩ | ⟨e1, e2, e3⟩
            · rw [ho] at e1; cases e1
            · rw [e2]; exact hah) cuts _ hv]
          obtain ⟨τ, t1, t2, t3⟩ := L_nightBut_14 w hcut d (i + 1) (zup (zup σ 3 0 8 i (-4)) 3 0 8 i (zsp h aw N cut i)) false (lo1 || decide (zsp h aw N cut i = -4)) (zsp h aw N cut i) (by omega) (zMN_8 (zMN_8 m)) (by
            right
            refine ⟨rfl, by rw [zns_2 hc], ?_⟩
            rw [zns_2 hc]
            by_cases hz : zsp h aw N cut i = -4
            · rw [if_pos hz, hz]; simp
            · rw [if_neg hz, ← hsl2, hsl, decide_eq_false hz]; simp) (hrow4 _ rfl)
          refine ⟨τ, ?_, zfrm_t (zfrm_up (zfrm_up zfrm_r ⟨rfl, rfl, rfl⟩) ⟨rfl, rfl, rfl⟩) t2, t3⟩
          rw [← t1]
          have e : zct (zspk h aw N cut) (i + 1) = zct (zspk h aw N cut) i + if zsp h aw N cut i = -4 then 0 else 1 := by
            show zct (zspk h aw N cut) i + (if zspk h aw N cut i = true then 1 else 0) = _
            unfold zspk
            by_cases hz : zsp h aw N cut i = -4
            · rw [if_pos hz, if_neg (by rw [decide_eq_true hz]; decide)]
            · rw [if_neg hz, if_pos (by rw [decide_eq_false hz]; rfl)]
          rw [e]
          rfl
        rw [hlaw]
        cases lo with
        | false =>
          rw [if_pos (show zb false = 0 by decide)]
          exact fin false false rfl rfl
        | true =>
          rw [if_neg (show ¬ zb true = 0 by decide)]
          cases o2 with
          | true =>
            rw [if_neg (show ¬ zb true = 0 by decide)]
            exact fin false false rfl rfl
          | false =>
            rw [if_pos (show zb false = 0 by decide)]
            by_cases hl : h 0 2 = 0
            · rw [if_pos hl]
              exact fin true true rfl (by rw [decide_eq_true hl]; rfl)
            · rw [if_neg hl]
              exact fin false true rfl (by rw [decide_eq_false hl]; rfl)
    rw [E_M_nightBut_14, m.2.2.1, if_pos (nI_lt hiL (by omega))]
    cases ho : o with
    | true =>
      rw [if_neg (show ¬ zb true = 0 by decide)]
      refine key true (Or.inl ⟨rfl, ?_⟩)
      rcases hr with ⟨e1, e2⟩ | ⟨e1, -⟩
      · rw [e2]
        unfold zat'
        split <;> rfl
      · rw [ho] at e1; cases e1
    | false =>
      rw [if_pos (show zb false = 0 by decide), show (28 : Int32) + nI i = nI (28 + i) from nI_add 28 i, zck_nI (by omega) (by decide), nI_clamp (by omega), m.2.2.2.2.2.2.1 i hiL]
      rcases hr with ⟨e1, e2⟩ | ⟨e1, e2⟩
      · rw [ho] at e1; cases e1
      · rcases zbit_01 (h 0 5) i with hz | hz
        · rw [hz, if_neg (by decide)]
          refine key false (Or.inr ⟨rfl, ?_⟩)
          rw [show zat' h (zns h aw N cut i) i = zns h aw N cut i from if_pos hz]
          exact e2
        · rw [hz, if_pos rfl]
          refine key true (Or.inl ⟨rfl, ?_⟩)
          exact if_neg (by rw [hz]; decide)
theorem L_nightBut {σ : ZS} {h : Nat → Nat → Int32} {P M N L : Nat} {aw : Nat → Bool} {cut : Nat → Bool} {cuts : Int32} (w : zNW h P M N L) (hcut : ∀ i, i < L → zbit cuts i = zb (cut i)) (m : zMN σ h aw P N L) :
    ∃ τ, zcall 165 [zA 3 0 0, zI cuts] σ = some (zI (nI (zspn h aw N cut L)), τ) ∧ zfrm zMX σ τ ∧ ∀ k, k < L → τ 3 0 8 k = zsp h aw N cut k := by
  rw [E_M_nightBut]
  exact L_nightBut_14 w hcut L 0 σ false false (-4) (by omega) m (Or.inr ⟨rfl, rfl, rfl⟩) (fun k hk => by omega)
theorem zbit_0 : ∀ k, k < 8 → zbit 0 k = zb false := by decide
theorem L_nightNow {σ : ZS} {h : Nat → Nat → Int32} {P M N L : Nat} {aw : Nat → Bool} (w : zNW h P M N L) (m : zMN σ h aw P N L) :
    ∃ τ, zcall 164 [zA 3 0 0] σ = some (zI (nI (zspn h aw N (fun _ => false) L)), τ) ∧ zfrm zMX σ τ ∧ ∀ k, k < L → τ 3 0 8 k = zsp h aw N (fun _ => false) k := by
  obtain ⟨τ, t1, t2⟩ := L_nightBut (cut := fun _ => false) (cuts := 0) w (fun i hi => zbit_0 i (by have := w.2.2.2.1; omega)) m
  rw [E_M_nightNow, t1, zbI_some]
  exact ⟨τ, rfl, t2⟩
/-- a night of the class with all there and nothing cut -/
theorem L_play0 {σ : ZS} (g : Nat) {P M N L : Nat} (w : zNW (σ 1 g) P M N L) :
    ∃ τ, zcall 24 [zA 0 0 7, zA 1 g 0, zI 0, zI 0] σ = some (zI (nI (zspn (σ 1 g) (fun _ => false) N (fun _ => false) L)), τ) ∧ zfrm zPX σ τ ∧ (∀ k, k < L → τ 0 0 8 k = zsp (σ 1 g) (fun _ => false) N (fun _ => false) k) ∧ τ 0 0 7 1 = nI (zmk (zspk (σ 1 g) (fun _ => false) N (fun _ => false)) L) :=
  L_play w (fun p hp => zbit_0 p (by have := w.2.2.1; omega)) (fun p hp => zbit_0 p (by have := w.2.2.2.1; omega))
