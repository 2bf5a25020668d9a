/-! THE LAW'S LOOP: question by question, both answer alike -/
def zOk1 (a : ZR) : Prop := ∃ υ, a = some (zI 1, υ)
/-- ahead of a question of the script: what is held, and that the rest of the script comes out true -/
def zLaw (x3 : Int32) (σ : ZS) : Prop := zInv σ ∧ (∀ r, zck (x3 + 1) (σ 4 0 1 0).toNatClampNeg r = r) ∧ (∀ r, zck (x3 + 2) (σ 4 0 1 0).toNatClampNeg r = r) ∧ (∀ r, zck (x3 + 3) (σ 4 0 1 0).toNatClampNeg r = r) ∧ (∀ r, zck (x3 + 4) (σ 4 0 1 0).toNatClampNeg r = r) ∧ (∀ τ, zInv τ → τ 4 = σ 4 → zOk1 (zev 206 1494 [(0, zA 4 0 0), (1, zA 0 0 0), (2, zA 3 0 0), (3, zI x3)] [] τ))
theorem zOk_ite {c : Prop} [Decidable c] {a b : ZR} (h1 : zOk1 a) (h2 : zOk1 b) : zOk1 (if c then a else b) := by
  by_cases hc : c
  · rw [if_pos hc]; exact h1
  · rw [if_neg hc]; exact h2
theorem lg_same (y : Int64) : lg_cmp y y = 0 := by
  unfold lg_cmp
  rw [if_neg (show ¬ y > y from Int64.lt_irrefl), if_pos rfl]
set_option maxRecDepth 100000 in
theorem W_220 {x3 : Int32} {σ : ZS} (h : zLaw x3 σ) : zOk1 (zev 206 220 [(0, zA 4 0 0), (1, zA 0 0 0), (2, zA 3 0 0), (3, zI x3)] [] σ) := by
  obtain ⟨hi, c1, c2, c3, c4, K⟩ := h
  obtain ⟨v, τ, υ, p1, p2, p3⟩ := Q_feed hi (σ 4 0 0 (x3 + 1).toNatClampNeg)
  have t4 : τ 4 = σ 4 := zcall_4 p1
  have u4 : υ 4 = τ 4 := zcall_4 p2
  rw [E_Law_law_220]
  simp only [c1, p1, zbI_some, t4, p2, if_true]
  exact K υ p3 (u4.trans t4)
set_option maxRecDepth 100000 in
theorem W_243 {x3 : Int32} {σ : ZS} (h : zLaw x3 σ) : zOk1 (zev 206 243 [(0, zA 4 0 0), (1, zA 0 0 0), (2, zA 3 0 0), (3, zI x3)] [] σ) := by
  obtain ⟨hi, c1, c2, c3, c4, K⟩ := h
  obtain ⟨v, τ, υ, p1, p2, p3⟩ := Q_end hi (σ 4 0 0 (x3 + 1).toNatClampNeg)
  have t4 : τ 4 = σ 4 := zcall_4 p1
  have u4 : υ 4 = τ 4 := zcall_4 p2
  rw [E_Law_law_243]
  simp only [c1, p1, zbI_some, t4, p2, if_true]
  exact K υ p3 (u4.trans t4)
set_option maxRecDepth 100000 in
theorem W_266 {x3 : Int32} {σ : ZS} (h : zLaw x3 σ) : zOk1 (zev 206 266 [(0, zA 4 0 0), (1, zA 0 0 0), (2, zA 3 0 0), (3, zI x3)] [] σ) := by
  obtain ⟨hi, c1, c2, c3, c4, K⟩ := h
  obtain ⟨v, τ, υ, p1, p2, p3⟩ := Q_text hi
  have t4 : τ 4 = σ 4 := zcall_4 p1
  have u4 : υ 4 = τ 4 := zcall_4 p2
  rw [E_Law_law_266]
  simp only [p1, zbI_some, p2, if_true]
  exact K υ p3 (u4.trans t4)
set_option maxRecDepth 100000 in
theorem W_279 {x3 : Int32} {σ : ZS} (h : zLaw x3 σ) : zOk1 (zev 206 279 [(0, zA 4 0 0), (1, zA 0 0 0), (2, zA 3 0 0), (3, zI x3)] [] σ) := by
  obtain ⟨hi, c1, c2, c3, c4, K⟩ := h
  obtain ⟨v, τ, υ, p1, p2, p3⟩ := Q_fault hi
  have t4 : τ 4 = σ 4 := zcall_4 p1
  have u4 : υ 4 = τ 4 := zcall_4 p2
  rw [E_Law_law_279]
  simp only [p1, zbI_some, p2, if_true]
  exact K υ p3 (u4.trans t4)
set_option maxRecDepth 100000 in
theorem W_292 {x3 : Int32} {σ : ZS} (h : zLaw x3 σ) : zOk1 (zev 206 292 [(0, zA 4 0 0), (1, zA 0 0 0), (2, zA 3 0 0), (3, zI x3)] [] σ) := by
  obtain ⟨hi, c1, c2, c3, c4, K⟩ := h
  obtain ⟨v, τ, υ, p1, p2, p3⟩ := Q_rule hi (σ 4 0 0 (x3 + 1).toNatClampNeg)
  have t4 : τ 4 = σ 4 := zcall_4 p1
  have u4 : υ 4 = τ 4 := zcall_4 p2
  rw [E_Law_law_292]
  simp only [c1, p1, zbI_some, t4, p2, if_true]
  exact K υ p3 (u4.trans t4)
set_option maxRecDepth 100000 in
theorem W_315 {x3 : Int32} {σ : ZS} (h : zLaw x3 σ) : zOk1 (zev 206 315 [(0, zA 4 0 0), (1, zA 0 0 0), (2, zA 3 0 0), (3, zI x3)] [] σ) := by
  obtain ⟨hi, c1, c2, c3, c4, K⟩ := h
  obtain ⟨v, τ, υ, p1, p2, p3⟩ := Q_seat hi (σ 4 0 0 (x3 + 1).toNatClampNeg) (σ 4 0 0 (x3 + 2).toNatClampNeg)
  have t4 : τ 4 = σ 4 := zcall_4 p1
  have u4 : υ 4 = τ 4 := zcall_4 p2
  rw [E_Law_law_315]
  simp only [c1, c2, p1, zbI_some, t4, p2, if_true]
  exact K υ p3 (u4.trans t4)
set_option maxRecDepth 100000 in
theorem W_348 {x3 : Int32} {σ : ZS} (h : zLaw x3 σ) : zOk1 (zev 206 348 [(0, zA 4 0 0), (1, zA 0 0 0), (2, zA 3 0 0), (3, zI x3)] [] σ) := by
  obtain ⟨hi, c1, c2, c3, c4, K⟩ := h
  obtain ⟨v, τ, υ, p1, p2, p3⟩ := Q_one hi (σ 4 0 0 (x3 + 1).toNatClampNeg) (σ 4 0 0 (x3 + 2).toNatClampNeg)
  have t4 : τ 4 = σ 4 := zcall_4 p1
  have u4 : υ 4 = τ 4 := zcall_4 p2
  rw [E_Law_law_348]
  simp only [c1, c2, p1, zbI_some, t4, p2, if_true]
  exact K υ p3 (u4.trans t4)
set_option maxRecDepth 100000 in
theorem W_381 {x3 : Int32} {σ : ZS} (h : zLaw x3 σ) : zOk1 (zev 206 381 [(0, zA 4 0 0), (1, zA 0 0 0), (2, zA 3 0 0), (3, zI x3)] [] σ) := by
  obtain ⟨hi, c1, c2, c3, c4, K⟩ := h
  obtain ⟨v, τ, υ, p1, p2, p3⟩ := Q_line hi (σ 4 0 0 (x3 + 1).toNatClampNeg) (σ 4 0 0 (x3 + 2).toNatClampNeg)
  have t4 : τ 4 = σ 4 := zcall_4 p1
  have u4 : υ 4 = τ 4 := zcall_4 p2
  rw [E_Law_law_381]
  simp only [c1, c2, p1, zbI_some, t4, p2, if_true]
  exact K υ p3 (u4.trans t4)
set_option maxRecDepth 100000 in
theorem W_414 {x3 : Int32} {σ : ZS} (h : zLaw x3 σ) : zOk1 (zev 206 414 [(0, zA 4 0 0), (1, zA 0 0 0), (2, zA 3 0 0), (3, zI x3)] [] σ) := by
  obtain ⟨hi, c1, c2, c3, c4, K⟩ := h
  obtain ⟨v, τ, υ, p1, p2, p3⟩ := Q_sit hi (σ 4 0 0 (x3 + 1).toNatClampNeg) (σ 4 0 0 (x3 + 2).toNatClampNeg)
  have t4 : τ 4 = σ 4 := zcall_4 p1
  have u4 : υ 4 = τ 4 := zcall_4 p2
  rw [E_Law_law_414]
  simp only [c1, c2, p1, zbI_some, t4, p2, if_true]
  exact K υ p3 (u4.trans t4)
set_option maxRecDepth 100000 in
theorem W_447 {x3 : Int32} {σ : ZS} (h : zLaw x3 σ) : zOk1 (zev 206 447 [(0, zA 4 0 0), (1, zA 0 0 0), (2, zA 3 0 0), (3, zI x3)] [] σ) := by
  obtain ⟨hi, c1, c2, c3, c4, K⟩ := h
  obtain ⟨v, τ, υ, p1, p2, p3⟩ := Q_swap hi (σ 4 0 0 (x3 + 1).toNatClampNeg) (σ 4 0 0 (x3 + 2).toNatClampNeg)
  have t4 : τ 4 = σ 4 := zcall_4 p1
  have u4 : υ 4 = τ 4 := zcall_4 p2
  rw [E_Law_law_447]
  simp only [c1, c2, p1, zbI_some, t4, p2, if_true]
  exact K υ p3 (u4.trans t4)
set_option maxRecDepth 100000 in
theorem W_480 {x3 : Int32} {σ : ZS} (h : zLaw x3 σ) : zOk1 (zev 206 480 [(0, zA 4 0 0), (1, zA 0 0 0), (2, zA 3 0 0), (3, zI x3)] [] σ) := by
  obtain ⟨hi, c1, c2, c3, c4, K⟩ := h
  obtain ⟨v, τ, υ, p1, p2, p3⟩ := Q_part hi (σ 4 0 0 (x3 + 1).toNatClampNeg) (σ 4 0 0 (x3 + 2).toNatClampNeg)
  have t4 : τ 4 = σ 4 := zcall_4 p1
  have u4 : υ 4 = τ 4 := zcall_4 p2
  rw [E_Law_law_480]
  simp only [c1, c2, p1, zbI_some, t4, p2, if_true]
  exact K υ p3 (u4.trans t4)
set_option maxRecDepth 100000 in
theorem W_513 {x3 : Int32} {σ : ZS} (h : zLaw x3 σ) : zOk1 (zev 206 513 [(0, zA 4 0 0), (1, zA 0 0 0), (2, zA 3 0 0), (3, zI x3)] [] σ) := by
  obtain ⟨hi, c1, c2, c3, c4, K⟩ := h
  obtain ⟨v, τ, υ, p1, p2, p3⟩ := Q_voice hi (σ 4 0 0 (x3 + 1).toNatClampNeg) (σ 4 0 0 (x3 + 2).toNatClampNeg)
  have t4 : τ 4 = σ 4 := zcall_4 p1
  have u4 : υ 4 = τ 4 := zcall_4 p2
  rw [E_Law_law_513]
  simp only [c1, c2, p1, zbI_some, t4, p2, if_true]
  exact K υ p3 (u4.trans t4)
set_option maxRecDepth 100000 in
theorem W_546 {x3 : Int32} {σ : ZS} (h : zLaw x3 σ) : zOk1 (zev 206 546 [(0, zA 4 0 0), (1, zA 0 0 0), (2, zA 3 0 0), (3, zI x3)] [] σ) := by
  obtain ⟨hi, c1, c2, c3, c4, K⟩ := h
  obtain ⟨v, τ, υ, p1, p2, p3⟩ := Q_comes hi (σ 4 0 0 (x3 + 1).toNatClampNeg) (σ 4 0 0 (x3 + 2).toNatClampNeg)
  have t4 : τ 4 = σ 4 := zcall_4 p1
  have u4 : υ 4 = τ 4 := zcall_4 p2
  rw [E_Law_law_546]
  simp only [c1, c2, p1, zbI_some, t4, p2, if_true]
  exact K υ p3 (u4.trans t4)
set_option maxRecDepth 100000 in
theorem W_579 {x3 : Int32} {σ : ZS} (h : zLaw x3 σ) : zOk1 (zev 206 579 [(0, zA 4 0 0), (1, zA 0 0 0), (2, zA 3 0 0), (3, zI x3)] [] σ) := by
  obtain ⟨hi, c1, c2, c3, c4, K⟩ := h
  by_cases h3 : σ 4 0 0 (x3 + 3).toNatClampNeg = 0
  · obtain ⟨v, τ, υ, p1, p2, p3⟩ := Q_feud hi (σ 4 0 0 (x3 + 1).toNatClampNeg) (σ 4 0 0 (x3 + 2).toNatClampNeg) false
    have p1 : zcall 75 [zA 0 0 0, zI (σ 4 0 0 (x3 + 1).toNatClampNeg), zI (σ 4 0 0 (x3 + 2).toNatClampNeg), zI 0] σ = some (zI v, τ) := p1
    have p2 : zcall 153 [zA 3 0 0, zI (σ 4 0 0 (x3 + 1).toNatClampNeg), zI (σ 4 0 0 (x3 + 2).toNatClampNeg), zI 0] τ = some (zI v, υ) := p2
    have t4 : τ 4 = σ 4 := zcall_4 p1
    have u4 : υ 4 = τ 4 := zcall_4 p2
    rw [E_Law_law_579]
    simp only [c1, c2, c3, h3, if_true]
    rw [E_Law_law_603]
    simp only [p1, zbI_some, t4, c1, c2, c3, h3, if_true]
    rw [E_Law_law_630]
    simp only [p2, zbI_some, if_true]
    exact K υ p3 (u4.trans t4)
  · obtain ⟨v, τ, υ, p1, p2, p3⟩ := Q_feud hi (σ 4 0 0 (x3 + 1).toNatClampNeg) (σ 4 0 0 (x3 + 2).toNatClampNeg) true
    have p1 : zcall 75 [zA 0 0 0, zI (σ 4 0 0 (x3 + 1).toNatClampNeg), zI (σ 4 0 0 (x3 + 2).toNatClampNeg), zI 1] σ = some (zI v, τ) := p1
    have p2 : zcall 153 [zA 3 0 0, zI (σ 4 0 0 (x3 + 1).toNatClampNeg), zI (σ 4 0 0 (x3 + 2).toNatClampNeg), zI 1] τ = some (zI v, υ) := p2
    have t4 : τ 4 = σ 4 := zcall_4 p1
    have u4 : υ 4 = τ 4 := zcall_4 p2
    rw [E_Law_law_579]
    simp only [c1, c2, c3, h3, if_false]
    rw [E_Law_law_603]
    simp only [p1, zbI_some, t4, c1, c2, c3, h3, if_false]
    rw [E_Law_law_630]
    simp only [p2, zbI_some, if_true]
    exact K υ p3 (u4.trans t4)
set_option maxRecDepth 100000 in
theorem W_638 {x3 : Int32} {σ : ZS} (h : zLaw x3 σ) : zOk1 (zev 206 638 [(0, zA 4 0 0), (1, zA 0 0 0), (2, zA 3 0 0), (3, zI x3)] [] σ) := by
  obtain ⟨hi, c1, c2, c3, c4, K⟩ := h
  obtain ⟨v, τ, υ, p1, p2, p3⟩ := Q_law hi (σ 4 0 0 (x3 + 1).toNatClampNeg)
  have t4 : τ 4 = σ 4 := zcall_4 p1
  have u4 : υ 4 = τ 4 := zcall_4 p2
  rw [E_Law_law_638]
  simp only [c1, p1, zbI_some, t4, p2, if_true]
  exact K υ p3 (u4.trans t4)
set_option maxRecDepth 100000 in
theorem W_661 {x3 : Int32} {σ : ZS} (h : zLaw x3 σ) : zOk1 (zev 206 661 [(0, zA 4 0 0), (1, zA 0 0 0), (2, zA 3 0 0), (3, zI x3)] [] σ) := by
  obtain ⟨hi, c1, c2, c3, c4, K⟩ := h
  by_cases h3 : σ 4 0 0 (x3 + 2).toNatClampNeg = 0
  · obtain ⟨v, τ, υ, p1, p2, p3⟩ := Q_opens hi (σ 4 0 0 (x3 + 1).toNatClampNeg) false
    have p1 : zcall 77 [zA 0 0 0, zI (σ 4 0 0 (x3 + 1).toNatClampNeg), zI 0] σ = some (zI v, τ) := p1
    have p2 : zcall 155 [zA 3 0 0, zI (σ 4 0 0 (x3 + 1).toNatClampNeg), zI 0] τ = some (zI v, υ) := p2
    have t4 : τ 4 = σ 4 := zcall_4 p1
    have u4 : υ 4 = τ 4 := zcall_4 p2
    rw [E_Law_law_661]
    simp only [c1, c2, c3, h3, if_true]
    rw [E_Law_law_680]
    simp only [p1, zbI_some, t4, c1, c2, c3, h3, if_true]
    rw [E_Law_law_702]
    simp only [p2, zbI_some, if_true]
    exact K υ p3 (u4.trans t4)
  · obtain ⟨v, τ, υ, p1, p2, p3⟩ := Q_opens hi (σ 4 0 0 (x3 + 1).toNatClampNeg) true
    have p1 : zcall 77 [zA 0 0 0, zI (σ 4 0 0 (x3 + 1).toNatClampNeg), zI 1] σ = some (zI v, τ) := p1
    have p2 : zcall 155 [zA 3 0 0, zI (σ 4 0 0 (x3 + 1).toNatClampNeg), zI 1] τ = some (zI v, υ) := p2
    have t4 : τ 4 = σ 4 := zcall_4 p1
    have u4 : υ 4 = τ 4 := zcall_4 p2
    rw [E_Law_law_661]
    simp only [c1, c2, c3, h3, if_false]
    rw [E_Law_law_680]
    simp only [p1, zbI_some, t4, c1, c2, c3, h3, if_false]
    rw [E_Law_law_702]
    simp only [p2, zbI_some, if_true]
    exact K υ p3 (u4.trans t4)
set_option maxRecDepth 100000 in
theorem W_710 {x3 : Int32} {σ : ZS} (h : zLaw x3 σ) : zOk1 (zev 206 710 [(0, zA 4 0 0), (1, zA 0 0 0), (2, zA 3 0 0), (3, zI x3)] [] σ) := by
  obtain ⟨hi, c1, c2, c3, c4, K⟩ := h
  obtain ⟨v, τ, υ, p1, p2, p3⟩ := Q_far hi (σ 4 0 0 (x3 + 1).toNatClampNeg) (σ 4 0 0 (x3 + 2).toNatClampNeg)
  have t4 : τ 4 = σ 4 := zcall_4 p1
  have u4 : υ 4 = τ 4 := zcall_4 p2
  rw [E_Law_law_710]
  simp only [c1, c2, p1, zbI_some, t4, p2, if_true]
  exact K υ p3 (u4.trans t4)
set_option maxRecDepth 100000 in
theorem W_743 {x3 : Int32} {σ : ZS} (h : zLaw x3 σ) : zOk1 (zev 206 743 [(0, zA 4 0 0), (1, zA 0 0 0), (2, zA 3 0 0), (3, zI x3)] [] σ) := by
  obtain ⟨hi, c1, c2, c3, c4, K⟩ := h
  obtain ⟨v, τ, υ, p1, p2, p3⟩ := Q_heard hi (σ 4 0 0 (x3 + 1).toNatClampNeg)
  have t4 : τ 4 = σ 4 := zcall_4 p1
  have u4 : υ 4 = τ 4 := zcall_4 p2
  rw [E_Law_law_743]
  simp only [c1, p1, zbI_some, t4, p2, if_true]
  exact K υ p3 (u4.trans t4)
set_option maxRecDepth 100000 in
theorem W_766 {x3 : Int32} {σ : ZS} (h : zLaw x3 σ) : zOk1 (zev 206 766 [(0, zA 4 0 0), (1, zA 0 0 0), (2, zA 3 0 0), (3, zI x3)] [] σ) := by
  obtain ⟨hi, c1, c2, c3, c4, K⟩ := h
  obtain ⟨v, τ, υ, p1, p2, p3⟩ := Q_speaks hi (σ 4 0 0 (x3 + 1).toNatClampNeg)
  have t4 : τ 4 = σ 4 := zcall_4 p1
  have u4 : υ 4 = τ 4 := zcall_4 p2
  rw [E_Law_law_766]
  simp only [c1, p1, zbI_some, t4, p2, if_true]
  exact K υ p3 (u4.trans t4)
set_option maxRecDepth 100000 in
theorem W_789 {x3 : Int32} {σ : ZS} (h : zLaw x3 σ) : zOk1 (zev 206 789 [(0, zA 4 0 0), (1, zA 0 0 0), (2, zA 3 0 0), (3, zI x3)] [] σ) := by
  obtain ⟨hi, c1, c2, c3, c4, K⟩ := h
  obtain ⟨v, τ, υ, p1, p2, p3⟩ := Q_night hi (σ 4 0 0 (x3 + 1).toNatClampNeg)
  have t4 : τ 4 = σ 4 := zcall_4 p1
  have u4 : υ 4 = τ 4 := zcall_4 p2
  rw [E_Law_law_789]
  simp only [c1, p1, zbI_some, t4, p2, if_true]
  exact K υ p3 (u4.trans t4)
set_option maxRecDepth 100000 in
theorem W_812 {x3 : Int32} {σ : ZS} (h : zLaw x3 σ) : zOk1 (zev 206 812 [(0, zA 4 0 0), (1, zA 0 0 0), (2, zA 3 0 0), (3, zI x3)] [] σ) := by
  obtain ⟨hi, c1, c2, c3, c4, K⟩ := h
  obtain ⟨v, τ, υ, p1, p2, p3⟩ := Q_says hi (σ 4 0 0 (x3 + 1).toNatClampNeg)
  have t4 : τ 4 = σ 4 := zcall_4 p1
  have u4 : υ 4 = τ 4 := zcall_4 p2
  rw [E_Law_law_812]
  simp only [c1, p1, zbI_some, t4, p2, if_true]
  exact K υ p3 (u4.trans t4)
set_option maxRecDepth 100000 in
theorem W_835 {x3 : Int32} {σ : ZS} (h : zLaw x3 σ) : zOk1 (zev 206 835 [(0, zA 4 0 0), (1, zA 0 0 0), (2, zA 3 0 0), (3, zI x3)] [] σ) := by
  obtain ⟨hi, c1, c2, c3, c4, K⟩ := h
  obtain ⟨v, τ, υ, p1, p2, p3⟩ := Q_best hi (σ 4 0 0 (x3 + 1).toNatClampNeg)
  have t4 : τ 4 = σ 4 := zcall_4 p1
  have u4 : υ 4 = τ 4 := zcall_4 p2
  rw [E_Law_law_835]
  simp only [c1, p1, zbI_some, t4, p2, if_true]
  exact K υ p3 (u4.trans t4)
set_option maxRecDepth 100000 in
theorem W_858 {x3 : Int32} {σ : ZS} (h : zLaw x3 σ) : zOk1 (zev 206 858 [(0, zA 4 0 0), (1, zA 0 0 0), (2, zA 3 0 0), (3, zI x3)] [] σ) := by
  obtain ⟨hi, c1, c2, c3, c4, K⟩ := h
  obtain ⟨v, τ, υ, p1, p2, p3⟩ := Q_change hi (σ 4 0 0 (x3 + 1).toNatClampNeg)
  have t4 : τ 4 = σ 4 := zcall_4 p1
  have u4 : υ 4 = τ 4 := zcall_4 p2
  rw [E_Law_law_858]
  simp only [c1, p1, zbI_some, t4, p2, if_true]
  exact K υ p3 (u4.trans t4)
set_option maxRecDepth 100000 in
theorem W_881 {x3 : Int32} {σ : ZS} (h : zLaw x3 σ) : zOk1 (zev 206 881 [(0, zA 4 0 0), (1, zA 0 0 0), (2, zA 3 0 0), (3, zI x3)] [] σ) := by
  obtain ⟨hi, c1, c2, c3, c4, K⟩ := h
  obtain ⟨v, τ, υ, p1, p2, p3⟩ := Q_role hi (σ 4 0 0 (x3 + 1).toNatClampNeg) (σ 4 0 0 (x3 + 2).toNatClampNeg)
  have t4 : τ 4 = σ 4 := zcall_4 p1
  have u4 : υ 4 = τ 4 := zcall_4 p2
  rw [E_Law_law_881]
  simp only [c1, c2, p1, zbI_some, t4, p2, if_true]
  exact K υ p3 (u4.trans t4)
set_option maxRecDepth 100000 in
theorem W_914 {x3 : Int32} {σ : ZS} (h : zLaw x3 σ) : zOk1 (zev 206 914 [(0, zA 4 0 0), (1, zA 0 0 0), (2, zA 3 0 0), (3, zI x3)] [] σ) := by
  obtain ⟨hi, c1, c2, c3, c4, K⟩ := h
  obtain ⟨v, τ, υ, p1, p2, p3⟩ := Q_cut hi (σ 4 0 0 (x3 + 1).toNatClampNeg)
  have t4 : τ 4 = σ 4 := zcall_4 p1
  have u4 : υ 4 = τ 4 := zcall_4 p2
  rw [E_Law_law_914]
  simp only [c1, p1, zbI_some, t4, p2, if_true]
  exact K υ p3 (u4.trans t4)
set_option maxRecDepth 100000 in
theorem W_937 {x3 : Int32} {σ : ZS} (h : zLaw x3 σ) : zOk1 (zev 206 937 [(0, zA 4 0 0), (1, zA 0 0 0), (2, zA 3 0 0), (3, zI x3)] [] σ) := by
  obtain ⟨hi, c1, c2, c3, c4, K⟩ := h
  obtain ⟨v, τ, υ, p1, p2, p3⟩ := Q_louder hi (σ 4 0 0 (x3 + 1).toNatClampNeg) (σ 4 0 0 (x3 + 2).toNatClampNeg)
  have t4 : τ 4 = σ 4 := zcall_4 p1
  have u4 : υ 4 = τ 4 := zcall_4 p2
  rw [E_Law_law_937]
  simp only [c1, c2, p1, zbI_some, t4, p2, if_true]
  exact K υ p3 (u4.trans t4)
set_option maxRecDepth 100000 in
theorem W_970 {x3 : Int32} {σ : ZS} (h : zLaw x3 σ) : zOk1 (zev 206 970 [(0, zA 4 0 0), (1, zA 0 0 0), (2, zA 3 0 0), (3, zI x3)] [] σ) := by
  obtain ⟨hi, c1, c2, c3, c4, K⟩ := h
  obtain ⟨v, τ, υ, p1, p2, p3⟩ := Q_peace hi (σ 4 0 0 (x3 + 1).toNatClampNeg)
  have t4 : τ 4 = σ 4 := zcall_4 p1
  have u4 : υ 4 = τ 4 := zcall_4 p2
  rw [E_Law_law_970]
  simp only [c1, p1, zbI_some, t4, p2, if_true]
  exact K υ p3 (u4.trans t4)
set_option maxRecDepth 100000 in
theorem W_993 {x3 : Int32} {σ : ZS} (h : zLaw x3 σ) : zOk1 (zev 206 993 [(0, zA 4 0 0), (1, zA 0 0 0), (2, zA 3 0 0), (3, zI x3)] [] σ) := by
  obtain ⟨hi, c1, c2, c3, c4, K⟩ := h
  obtain ⟨v, τ, υ, p1, p2, p3⟩ := Q_without hi (σ 4 0 0 (x3 + 1).toNatClampNeg)
  have t4 : τ 4 = σ 4 := zcall_4 p1
  have u4 : υ 4 = τ 4 := zcall_4 p2
  rw [E_Law_law_993]
  simp only [c1, p1, zbI_some, t4, p2, if_true]
  exact K υ p3 (u4.trans t4)
set_option maxRecDepth 100000 in
theorem W_1016 {x3 : Int32} {σ : ZS} (h : zLaw x3 σ) : zOk1 (zev 206 1016 [(0, zA 4 0 0), (1, zA 0 0 0), (2, zA 3 0 0), (3, zI x3)] [] σ) := by
  obtain ⟨hi, c1, c2, c3, c4, K⟩ := h
  obtain ⟨v, τ, υ, p1, p2, p3⟩ := Q_row hi (σ 4 0 0 (x3 + 1).toNatClampNeg)
  have t4 : τ 4 = σ 4 := zcall_4 p1
  have u4 : υ 4 = τ 4 := zcall_4 p2
  rw [E_Law_law_1016]
  simp only [c1, p1, zbI_some, t4, p2, if_true]
  exact K υ p3 (u4.trans t4)
set_option maxRecDepth 100000 in
theorem W_1039 {x3 : Int32} {σ : ZS} (h : zLaw x3 σ) : zOk1 (zev 206 1039 [(0, zA 4 0 0), (1, zA 0 0 0), (2, zA 3 0 0), (3, zI x3)] [] σ) := by
  obtain ⟨hi, c1, c2, c3, c4, K⟩ := h
  obtain ⟨v, τ, υ, p1, p2, p3⟩ := Q_share hi (σ 4 0 0 (x3 + 1).toNatClampNeg) (σ 4 0 0 (x3 + 2).toNatClampNeg)
  have t4 : τ 4 = σ 4 := zcall_4 p1
  have u4 : υ 4 = τ 4 := zcall_4 p2
  rw [E_Law_law_1039]
  simp only [c1, c2, p1, zbJ_some, t4, p2, lg_same, if_true]
  exact K υ p3 (u4.trans t4)
set_option maxRecDepth 100000 in
theorem W_1073 {x3 : Int32} {σ : ZS} (h : zLaw x3 σ) : zOk1 (zev 206 1073 [(0, zA 4 0 0), (1, zA 0 0 0), (2, zA 3 0 0), (3, zI x3)] [] σ) := by
  obtain ⟨hi, c1, c2, c3, c4, K⟩ := h
  obtain ⟨v, τ, υ, p1, p2, p3⟩ := Q_mean hi (σ 4 0 0 (x3 + 1).toNatClampNeg) (σ 4 0 0 (x3 + 2).toNatClampNeg)
  have t4 : τ 4 = σ 4 := zcall_4 p1
  have u4 : υ 4 = τ 4 := zcall_4 p2
  rw [E_Law_law_1073]
  simp only [c1, c2, p1, zbJ_some, t4, p2, lg_same, if_true]
  exact K υ p3 (u4.trans t4)
set_option maxRecDepth 100000 in
theorem W_1107 {x3 : Int32} {σ : ZS} (h : zLaw x3 σ) : zOk1 (zev 206 1107 [(0, zA 4 0 0), (1, zA 0 0 0), (2, zA 3 0 0), (3, zI x3)] [] σ) := by
  obtain ⟨hi, c1, c2, c3, c4, K⟩ := h
  obtain ⟨v, τ, υ, p1, p2, p3⟩ := Q_luck hi (σ 4 0 0 (x3 + 1).toNatClampNeg) (σ 4 0 0 (x3 + 2).toNatClampNeg) (σ 4 0 0 (x3 + 3).toNatClampNeg)
  have t4 : τ 4 = σ 4 := zcall_4 p1
  have u4 : υ 4 = τ 4 := zcall_4 p2
  rw [E_Law_law_1107]
  simp only [c1, c2, c3, p1, zbJ_some, t4, p2, lg_same, if_true]
  exact K υ p3 (u4.trans t4)
set_option maxRecDepth 100000 in
theorem W_1151 {x3 : Int32} {σ : ZS} (h : zLaw x3 σ) : zOk1 (zev 206 1151 [(0, zA 4 0 0), (1, zA 0 0 0), (2, zA 3 0 0), (3, zI x3)] [] σ) := by
  obtain ⟨hi, c1, c2, c3, c4, K⟩ := h
  obtain ⟨v, τ, υ, p1, p2, p3⟩ := Q_see hi (σ 4 0 0 (x3 + 1).toNatClampNeg) (σ 4 0 0 (x3 + 2).toNatClampNeg)
  have t4 : τ 4 = σ 4 := zcall_4 p1
  have u4 : υ 4 = τ 4 := zcall_4 p2
  rw [E_Law_law_1151]
  simp only [c1, c2, p1, zbI_some, t4, p2, if_true]
  exact K υ p3 (u4.trans t4)
set_option maxRecDepth 100000 in
theorem W_1184 {x3 : Int32} {σ : ZS} (h : zLaw x3 σ) : zOk1 (zev 206 1184 [(0, zA 4 0 0), (1, zA 0 0 0), (2, zA 3 0 0), (3, zI x3)] [] σ) := by
  obtain ⟨hi, c1, c2, c3, c4, K⟩ := h
  obtain ⟨v, τ, υ, p1, p2, p3⟩ := Q_forget hi (σ 4 0 0 (x3 + 1).toNatClampNeg)
  have t4 : τ 4 = σ 4 := zcall_4 p1
  have u4 : υ 4 = τ 4 := zcall_4 p2
  rw [E_Law_law_1184]
  simp only [c1, p1, zbI_some, t4, p2, if_true]
  exact K υ p3 (u4.trans t4)
set_option maxRecDepth 100000 in
theorem W_1207 {x3 : Int32} {σ : ZS} (h : zLaw x3 σ) : zOk1 (zev 206 1207 [(0, zA 4 0 0), (1, zA 0 0 0), (2, zA 3 0 0), (3, zI x3)] [] σ) := by
  obtain ⟨hi, c1, c2, c3, c4, K⟩ := h
  obtain ⟨v, τ, υ, p1, p2, p3⟩ := Q_fits hi (σ 4 0 0 (x3 + 1).toNatClampNeg)
  have t4 : τ 4 = σ 4 := zcall_4 p1
  have u4 : υ 4 = τ 4 := zcall_4 p2
  rw [E_Law_law_1207]
  simp only [c1, p1, zbI_some, t4, p2, if_true]
  exact K υ p3 (u4.trans t4)
set_option maxRecDepth 100000 in
theorem W_1230 {x3 : Int32} {σ : ZS} (h : zLaw x3 σ) : zOk1 (zev 206 1230 [(0, zA 4 0 0), (1, zA 0 0 0), (2, zA 3 0 0), (3, zI x3)] [] σ) := by
  obtain ⟨hi, c1, c2, c3, c4, K⟩ := h
  obtain ⟨v, τ, υ, p1, p2, p3⟩ := Q_drift hi (σ 4 0 0 (x3 + 1).toNatClampNeg) (σ 4 0 0 (x3 + 2).toNatClampNeg) (σ 4 0 0 (x3 + 3).toNatClampNeg)
  have t4 : τ 4 = σ 4 := zcall_4 p1
  have u4 : υ 4 = τ 4 := zcall_4 p2
  rw [E_Law_law_1230]
  simp only [c1, c2, c3, p1, zbI_some, t4, p2, if_true]
  exact K υ p3 (u4.trans t4)
set_option maxRecDepth 100000 in
theorem W_1273 {x3 : Int32} {σ : ZS} (h : zLaw x3 σ) : zOk1 (zev 206 1273 [(0, zA 4 0 0), (1, zA 0 0 0), (2, zA 3 0 0), (3, zI x3)] [] σ) := by
  obtain ⟨hi, c1, c2, c3, c4, K⟩ := h
  obtain ⟨v, τ, υ, p1, p2, p3⟩ := Q_keep hi (σ 4 0 0 (x3 + 1).toNatClampNeg)
  have t4 : τ 4 = σ 4 := zcall_4 p1
  have u4 : υ 4 = τ 4 := zcall_4 p2
  rw [E_Law_law_1273]
  simp only [c1, p1, zbI_some, t4, p2, if_true]
  exact K υ p3 (u4.trans t4)
set_option maxRecDepth 100000 in
theorem W_1296 {x3 : Int32} {σ : ZS} (h : zLaw x3 σ) : zOk1 (zev 206 1296 [(0, zA 4 0 0), (1, zA 0 0 0), (2, zA 3 0 0), (3, zI x3)] [] σ) := by
  obtain ⟨hi, c1, c2, c3, c4, K⟩ := h
  obtain ⟨v, τ, υ, p1, p2, p3⟩ := Q_back hi (σ 4 0 0 (x3 + 1).toNatClampNeg)
  have t4 : τ 4 = σ 4 := zcall_4 p1
  have u4 : υ 4 = τ 4 := zcall_4 p2
  rw [E_Law_law_1296]
  simp only [c1, p1, zbI_some, t4, p2, if_true]
  exact K υ p3 (u4.trans t4)
set_option maxRecDepth 100000 in
theorem W_1319 {x3 : Int32} {σ : ZS} (h : zLaw x3 σ) : zOk1 (zev 206 1319 [(0, zA 4 0 0), (1, zA 0 0 0), (2, zA 3 0 0), (3, zI x3)] [] σ) := by
  obtain ⟨hi, c1, c2, c3, c4, K⟩ := h
  obtain ⟨v, τ, υ, p1, p2, p3⟩ := Q_sheet hi (σ 4 0 0 (x3 + 1).toNatClampNeg) (σ 4 0 0 (x3 + 2).toNatClampNeg) (σ 4 0 0 (x3 + 3).toNatClampNeg)
  have t4 : τ 4 = σ 4 := zcall_4 p1
  have u4 : υ 4 = τ 4 := zcall_4 p2
  rw [E_Law_law_1319]
  simp only [c1, c2, c3, p1, zbI_some, t4, p2, if_true]
  exact K υ p3 (u4.trans t4)
set_option maxRecDepth 100000 in
theorem W_1362 {x3 : Int32} {σ : ZS} (h : zLaw x3 σ) : zOk1 (zev 206 1362 [(0, zA 4 0 0), (1, zA 0 0 0), (2, zA 3 0 0), (3, zI x3)] [] σ) := by
  obtain ⟨hi, c1, c2, c3, c4, K⟩ := h
  obtain ⟨v, τ, υ, p1, p2, p3⟩ := Q_lay hi (σ 4 0 0 (x3 + 1).toNatClampNeg) (σ 4 0 0 (x3 + 2).toNatClampNeg) (σ 4 0 0 (x3 + 3).toNatClampNeg)
  have t4 : τ 4 = σ 4 := zcall_4 p1
  have u4 : υ 4 = τ 4 := zcall_4 p2
  rw [E_Law_law_1362]
  simp only [c1, c2, c3, p1, zbI_some, t4, p2, if_true]
  exact K υ p3 (u4.trans t4)
set_option maxRecDepth 100000 in
theorem W_1405 {x3 : Int32} {σ : ZS} (h : zLaw x3 σ) : zOk1 (zev 206 1405 [(0, zA 4 0 0), (1, zA 0 0 0), (2, zA 3 0 0), (3, zI x3)] [] σ) := by
  obtain ⟨hi, c1, c2, c3, c4, K⟩ := h
  obtain ⟨v, τ, υ, p1, p2, p3⟩ := Q_read hi (σ 4 0 0 (x3 + 1).toNatClampNeg) (σ 4 0 0 (x3 + 2).toNatClampNeg) (σ 4 0 0 (x3 + 3).toNatClampNeg) (σ 4 0 0 (x3 + 4).toNatClampNeg)
  have t4 : τ 4 = σ 4 := zcall_4 p1
  have u4 : υ 4 = τ 4 := zcall_4 p2
  rw [E_Law_law_1405]
  simp only [c1, c2, c3, c4, p1, zbI_some, t4, p2, if_true]
  exact K υ p3 (u4.trans t4)
set_option maxRecDepth 100000 in
theorem W_1458 {x3 : Int32} {σ : ZS} (h : zLaw x3 σ) : zOk1 (zev 206 1458 [(0, zA 4 0 0), (1, zA 0 0 0), (2, zA 3 0 0), (3, zI x3)] [] σ) := by
  obtain ⟨hi, c1, c2, c3, c4, K⟩ := h
  obtain ⟨v, τ, υ, p1, p2, p3⟩ := Q_torn hi
  have t4 : τ 4 = σ 4 := zcall_4 p1
  have u4 : υ 4 = τ 4 := zcall_4 p2
  rw [E_Law_law_1458]
  simp only [p1, zbI_some, p2, if_true]
  exact K υ p3 (u4.trans t4)
set_option maxRecDepth 100000 in
theorem W_1471 {x3 : Int32} {σ : ZS} (h : zLaw x3 σ) : zOk1 (zev 206 1471 [(0, zA 4 0 0), (1, zA 0 0 0), (2, zA 3 0 0), (3, zI x3)] [] σ) := by
  obtain ⟨hi, c1, c2, c3, c4, K⟩ := h
  obtain ⟨v, τ, υ, p1, p2, p3⟩ := Q_count hi (σ 4 0 0 (x3 + 1).toNatClampNeg)
  have t4 : τ 4 = σ 4 := zcall_4 p1
  have u4 : υ 4 = τ 4 := zcall_4 p2
  rw [E_Law_law_1471]
  simp only [c1, p1, zbI_some, t4, p2, if_true]
  exact K υ p3 (u4.trans t4)
set_option maxRecDepth 100000 in
/-- whatever the question -/
theorem W_18 {x3 : Int32} {σ : ZS} (h : zLaw x3 σ) (h0 : ∀ r, zck x3 (σ 4 0 1 0).toNatClampNeg r = r) (hn : ¬ σ 4 0 1 0 - 5 < x3) : zOk1 (zev 206 18 [(0, zA 4 0 0), (1, zA 0 0 0), (2, zA 3 0 0), (3, zI x3)] [] σ) := by
  rw [E_Law_law_18, if_neg hn, h0]
  exact zOk_ite (W_220 h) (zOk_ite (W_243 h) (zOk_ite (W_266 h) (zOk_ite (W_279 h) (zOk_ite (W_292 h) (zOk_ite (W_315 h) (zOk_ite (W_348 h) (zOk_ite (W_381 h) (zOk_ite (W_414 h) (zOk_ite (W_447 h) (zOk_ite (W_480 h) (zOk_ite (W_513 h) (zOk_ite (W_546 h) (zOk_ite (W_579 h) (zOk_ite (W_638 h) (zOk_ite (W_661 h) (zOk_ite (W_710 h) (zOk_ite (W_743 h) (zOk_ite (W_766 h) (zOk_ite (W_789 h) (zOk_ite (W_812 h) (zOk_ite (W_835 h) (zOk_ite (W_858 h) (zOk_ite (W_881 h) (zOk_ite (W_914 h) (zOk_ite (W_937 h) (zOk_ite (W_970 h) (zOk_ite (W_993 h) (zOk_ite (W_1016 h) (zOk_ite (W_1039 h) (zOk_ite (W_1073 h) (zOk_ite (W_1107 h) (zOk_ite (W_1151 h) (zOk_ite (W_1184 h) (zOk_ite (W_1207 h) (zOk_ite (W_1230 h) (zOk_ite (W_1273 h) (zOk_ite (W_1296 h) (zOk_ite (W_1319 h) (zOk_ite (W_1362 h) (zOk_ite (W_1405 h) (zOk_ite (W_1458 h) (zOk_ite (W_1471 h) (h.2.2.2.2.2 σ h.1 rfl)))))))))))))))))))))))))))))))))))))))))))
theorem W_le (x : Int32) (m : Nat) (hx : 0 ≤ x.toInt) (hm : x.toInt + m < 2 ^ 31) : (x + nI m).toInt = x.toInt + m := by
  rw [Int32.toInt_add, nI_toInt (by omega), Int.bmod_def]
  split <;> omega
theorem W_ck (x L : Int32) (m : Nat) (hx : 0 ≤ x.toInt) (hm : x.toInt + m < L.toInt) (r : ZR) : zck (x + nI m) L.toNatClampNeg r = r := by
  have hL := L.toInt_lt
  have e := W_le x m hx (by omega)
  unfold zck
  rw [if_neg]
  intro h
  rcases h with h | h
  · rw [Int32.lt_iff_toInt_lt, e, show (0 : Int32).toInt = 0 from rfl] at h
    omega
  · have e2 : (x + nI m).toNatClampNeg = (x + nI m).toInt.toNat := rfl
    have e3 : L.toNatClampNeg = L.toInt.toNat := rfl
    rw [e2, e3, e] at h
    omega
theorem W_sub (L : Int32) (hL : 0 ≤ L.toInt) : (L - 5).toInt = L.toInt - 5 := by
  have h := L.toInt_lt
  rw [Int32.toInt_sub, show (5 : Int32).toInt = 5 from rfl, Int.bmod_def]
  split <;> omega
/-- the whole script -/
theorem W_law : ∀ (m : Nat) (x3 : Int32) (σ : ZS), zInv σ → 0 ≤ x3.toInt → 0 ≤ (σ 4 0 1 0).toInt → (σ 4 0 1 0).toInt - x3.toInt < m → zOk1 (zev 206 18 [(0, zA 4 0 0), (1, zA 0 0 0), (2, zA 3 0 0), (3, zI x3)] [] σ)
  | 0, x3, σ, hi, h1, h2, h3 => by
    have hc : σ 4 0 1 0 - 5 < x3 := by
      rw [Int32.lt_iff_toInt_lt, W_sub _ h2]
      omega
    rw [E_Law_law_18, if_pos hc]
    exact ⟨σ, rfl⟩
  | m + 1, x3, σ, hi, h1, h2, h3 => by
    by_cases hc : σ 4 0 1 0 - 5 < x3
    · rw [E_Law_law_18, if_pos hc]
      exact ⟨σ, rfl⟩
    · have hd := hc
      rw [Int32.lt_iff_toInt_lt, W_sub _ h2] at hd
      have hL := (σ 4 0 1 0).toInt_lt
      refine W_18 ⟨hi, W_ck x3 _ 1 h1 (by omega), W_ck x3 _ 2 h1 (by omega), W_ck x3 _ 3 h1 (by omega), W_ck x3 _ 4 h1 (by omega), fun τ ht t4 => ?_⟩ (fun r => ?_) hc
      · rw [E_Law_law_1494]
        have e5 : (x3 + 5).toInt = x3.toInt + 5 := W_le x3 5 h1 (by omega)
        refine W_law m (x3 + 5) τ ht (by omega) ?_ ?_
        · rw [t4]; exact h2
        · rw [t4, e5]; omega
      · have h := W_ck x3 (σ 4 0 1 0) 0 h1 (by omega) r
        rw [show x3 + nI 0 = x3 from Int32.add_zero x3] at h
        exact h
