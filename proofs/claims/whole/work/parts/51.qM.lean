/-! PURE: what the reference asks of its sums. -/
theorem sM_ref_rough (d : Nat) {S : bwS} (hS : bwOK S) {μ : bwM} (hR : bwR' S μ) (hs : ¬ g_sound S) : bw_call (d + 4) 117 [.inr (.inr 30)] μ = some (some (.inl (-4)), μ) := by
  rw [qX4_refused, sM_rough _ hS hR hs, bq_I, if_neg bq_ne10]
theorem sM_refused (d : Nat) {S : bwS} (hS : bwOK S) {μ : bwM} (hR : bwR' S μ) (hs : g_sound S) : ∃ ν, bw_call (d + 4) 117 [.inr (.inr 30)] μ = some (some (.inl (if g_SUM S = 0 then -5 else 0)), ν) ∧ bw_fE μ ν := by
  obtain ⟨ν, e1, e2⟩ := sM_all d hS hR
  refine ⟨ν, ?_, e2⟩
  have hle := g_SUM_le hS hs
  rw [qX4_refused, sM_nrough _ hS hR hs, bq_I, if_pos rfl, e1, bq_L, show Int64.ofNat 0 = lN 0 from rfl, show bp_S (g_lik S) (g_all S) = g_SUM S from rfl]
  by_cases h : g_SUM S = 0
  · rw [if_pos ((lg_cmp_eq _ _).2 (by rw [h])), if_pos h]
  · rw [if_neg (fun hh => h ((pk_lEQ (by omega) (by omega)).1 ((lg_cmp_eq _ _).1 hh))), if_neg h]
/-- as bw_fE, and the best option may change -/
def bw_fG (μ ν : bwM) : Prop := (∀ c, c ≠ 41 → c ≠ 30 → ν.1 c = μ.1 c) ∧ (∀ j, j ≠ 24 → ν.1 30 j = μ.1 30 j) ∧ (∀ c j, ¬ (c = 30 ∧ j = 14) → ν.2 c j = μ.2 c j)
theorem fG_E {μ ν : bwM} (h : bw_fE μ ν) : bw_fG μ ν := ⟨fun c hc _ => h.1 c hc, fun j _ => by rw [h.1 30 (by omega)], h.2⟩
theorem fG_refl (μ : bwM) : bw_fG μ μ := fG_E (fE_refl μ)
theorem fG_trans {μ ν π : bwM} (h : bw_fG μ ν) (h' : bw_fG ν π) : bw_fG μ π := ⟨fun c h1 h2 => (h'.1 c h1 h2).trans (h.1 c h1 h2), fun j hj => (h'.2.1 j hj).trans (h.2.1 j hj), fun c j hc => (h'.2.2 c j hc).trans (h.2.2 c j hc)⟩
theorem fG_r {S : bwS} {μ ν : bwM} (h : bw_fG μ ν) (hR : bwR' S μ) : bwR' S ν := fr_r hR (fun i hi h0 => h.1 _ (by omega) (by omega)) (h.2.1 1 (by omega)) (h.2.1 10 (by omega))
theorem fG_24 (μ : bwM) (x : Int32) : bw_fG μ (bw_si μ 30 24 x) := ⟨fun c _ h => funext (fun j => bq_sin _ _ (by omega)), fun j hj => bq_sin _ _ (by omega), fun _ _ _ => rfl⟩
theorem sM_great_go (d : Nat) {S : bwS} (hS : bwOK S) {p : Option (Nat × Nat)} {x1 x2 : Int32} (hp : bw_pr S p x1 x2) (k : Nat) (hk : k + 1 ≤ gO S) (o6 : Option bwV) (μ : bwM) (hR : bwR' S μ) (hb : μ.1 30 24 = nI (bp_best (g_W S p) (k + 1))) : ∃ ν, eX4_greatest (d + 2) 16 [some (.inr (.inr 30)), some (.inl x1), some (.inl x2), some (.inr (.inl (g_W S p (bp_best (g_W S p) (k + 1))))), none, some (.inl (nI (k + 1))), o6, none] [] μ = some (some (.inr (.inl (g_W S p (g_B S p)))), ν) ∧ ν.1 30 24 = nI (g_B S p) ∧ bw_fG μ ν := by
  have hno := ok_o hS
  induction hj : gO S - (k + 1) generalizing k o6 μ with
  | zero =>
    have : k + 1 = gO S := by omega
    rw [this] at hb ⊢
    refine ⟨μ, ?_, hb, fG_refl μ⟩
    rw [qX4_greatest_16, rr_o hR, if_pos (nI_le (by omega) (by omega))]
    rfl
  | succ j ih =>
    obtain ⟨π, e1, e2⟩ := sM_worthOf d hS (o := k + 1) (by omega) hp hR
    have hW : lI (bp_SI (fun c => if g_tk p c = true then g_u S (k + 1) c (gN S) * (g_lik S c : Int) else 0) (g_all S)) = g_W S p (k + 1) := rfl
    rw [hW] at e1
    have hbb : bp_best (g_W S p) (k + 1 + 1) = if g_W S p (bp_best (g_W S p) (k + 1)) < g_W S p (k + 1) then k + 1 else bp_best (g_W S p) (k + 1) := by
      rw [bp_best, if_neg (by omega)]
    rw [qX4_greatest_16, rr_o hR, if_neg (nI_ge (by omega) (by omega)), e1, bq_L]
    by_cases hlt : g_W S p (bp_best (g_W S p) (k + 1)) < g_W S p (k + 1)
    · rw [if_pos hlt] at hbb
      obtain ⟨ν, f1, f2, f3⟩ := ih (k + 1) (by omega) (some (.inr (.inl (g_W S p (k + 1))))) (bw_si π 30 24 (nI (k + 1))) (fG_r (fG_trans (fG_E e2) (fG_24 π _)) hR) (by rw [bq_sie, hbb]) (by omega)
      rw [hbb] at f1
      refine ⟨ν, ?_, f2, fG_trans (fG_trans (fG_E e2) (fG_24 π _)) f3⟩
      rw [if_pos ((lg_cmp_gt _ _).2 hlt), qX4_greatest_45, qX4_greatest_54, nI_1]
      exact f1
    · rw [if_neg hlt] at hbb
      obtain ⟨ν, f1, f2, f3⟩ := ih (k + 1) (by omega) (some (.inr (.inl (g_W S p (k + 1))))) π (fE_r e2 hR) (by rw [e2.1 30 (by omega), hbb]; exact hb) (by omega)
      rw [hbb] at f1
      refine ⟨ν, ?_, f2, fG_trans (fG_E e2) f3⟩
      rw [if_neg (fun hh => hlt ((lg_cmp_gt _ _).1 hh)), qX4_greatest_42, qX4_greatest_54, nI_1]
      exact f1
/-- greatest -/
theorem sM_great (d : Nat) {S : bwS} (hS : bwOK S) {p : Option (Nat × Nat)} {x1 x2 : Int32} (hp : bw_pr S p x1 x2) (h0 : 0 < gO S) {μ : bwM} (hR : bwR' S μ) : ∃ ν, bw_call (d + 3) 132 [.inr (.inr 30), .inl x1, .inl x2] μ = some (some (.inr (.inl (lI (g_G S p)))), ν) ∧ ν.1 30 24 = nI (g_B S p) ∧ bw_fG μ ν := by
  have h24 := fG_24 μ 0
  obtain ⟨π, e1, e2⟩ := sM_worthOf d hS (o := 0) h0 hp (fG_r h24 hR)
  obtain ⟨ν, f1, f2, f3⟩ := sM_great_go d hS hp 0 (by omega) none π (fG_r (fG_trans h24 (fG_E e2)) hR) (by rw [e2.1 30 (by omega), bq_sie]; rfl)
  refine ⟨ν, ?_, f2, fG_trans (fG_trans h24 (fG_E e2)) f3⟩
  rw [qX4_greatest, show (0 : Int32) = nI 0 from rfl]
  rw [show (0 : Int32) = nI 0 from rfl] at e1
  rw [e1, bq_L]
  exact f1
theorem sM_gain_go (d : Nat) {S : bwS} (hS : bwOK S) (h0 : 0 < gO S) {x : Nat} (hx : x < gN S) (v : Nat) (hv : v ≤ gV S x) (μ : bwM) (hR : bwR' S μ) : ∃ ν, eX4_gainOf (d + 3) 21 [some (.inr (.inr 30)), some (.inl (nI x)), some (.inr (.inl (lI (bp_isum (fun v => g_G S (some (x, v))) v - g_G S none)))), none, some (.inl (nI v))] [] μ = some (some (.inr (.inl (lI (g_gain S x)))), ν) ∧ bw_fG μ ν := by
  have hn := ok_n hS
  have h4 := ok_v4 hS hx
  induction hj : gV S x - v generalizing v μ with
  | zero =>
    have : v = gV S x := by omega
    subst this
    refine ⟨μ, ?_, fG_refl μ⟩
    rw [qX4_gainOf_21, if_pos ((bq_ii (by omega)).2 (by omega)), nI_clamp (by omega), rm_v hR hx, if_pos (nI_le (by omega) (by omega))]
    rfl
  | succ j ih =>
    obtain ⟨π, e1, _, e2⟩ := sM_great d hS (p := some (x, v)) (x1 := nI x) (x2 := nI v) ⟨rfl, rfl, hx, by omega⟩ h0 hR
    obtain ⟨ν, f1, f2⟩ := ih (v + 1) (by omega) π (fG_r e2 hR) (by omega)
    refine ⟨ν, ?_, fG_trans e2 f2⟩
    rw [qX4_gainOf_21, if_pos ((bq_ii (by omega)).2 (by omega)), nI_clamp (by omega), rm_v hR hx, if_neg (nI_ge (by omega) (by omega)), e1, bq_L, lI_add, nI_1]
    rw [show bp_isum (fun v => g_G S (some (x, v))) v - g_G S none + g_G S (some (x, v)) = bp_isum (fun v => g_G S (some (x, v))) (v + 1) - g_G S none by rw [bp_isum]; omega]
    exact f1
/-- gainOf a thing that is free -/
theorem sM_gainOf (d : Nat) {S : bwS} (hS : bwOK S) (h0 : 0 < gO S) {x : Nat} (hx : x < gN S) (hf : g_free S x) {μ : bwM} (hR : bwR' S μ) : ∃ ν, bw_call (d + 4) 136 [.inr (.inr 30), .inl (nI x)] μ = some (some (.inr (.inl (lI (g_gain S x)))), ν) ∧ bw_fG μ ν := by
  obtain ⟨π, e1, _, e2⟩ := sM_great d hS (p := none) (x1 := -1) (x2 := 0) rfl h0 hR
  obtain ⟨ν, f1, f2⟩ := sM_gain_go d hS h0 hx 0 (by omega) π (fG_r e2 hR)
  refine ⟨ν, ?_, fG_trans e2 f2⟩
  rw [qX4_gainOf, (sM_known _ hS hR hx).1 hf, bq_I, if_pos rfl, e1, bq_L, lI_neg]
  rw [show bp_isum (fun v => g_G S (some (x, v))) 0 - g_G S none = - g_G S none by rw [bp_isum]; omega] at f1
  exact f1
theorem sM_gainK (d : Nat) {S : bwS} (hS : bwOK S) {x : Nat} (hx : x < gN S) (hf : ¬ g_free S x) {μ : bwM} (hR : bwR' S μ) : bw_call (d + 4) 136 [.inr (.inr 30), .inl (nI x)] μ = some (some (.inr (.inl (lI 0))), μ) := by
  rw [qX4_gainOf, (sM_known _ hS hR hx).2 hf, bq_I, if_neg bq_ne10]
  rfl
/-- what a question leaves of the reference -/
def bw_mq (μ ν : bwM) (t : Option (Int × Nat)) : Prop := (∀ c, c ≠ 30 → c < 40 ∨ c = 42 ∨ 47 < c → ν.1 c = μ.1 c) ∧ (∀ j, j ≠ 24 → ν.1 30 j = μ.1 30 j) ∧ (∀ c, c ≠ 30 → c ≠ 43 → ν.2 c = μ.2 c) ∧ match t with
  | none => ν.2 30 15 = μ.2 30 15 ∧ ν.2 30 16 = μ.2 30 16
  | some (A, b) => ν.2 30 15 = lI A / lN (Nat.gcd A.natAbs b) ∧ ν.2 30 16 = lN b / lN (Nat.gcd A.natAbs b)
theorem mq_G {μ ν : bwM} (h : bw_fG μ ν) : bw_mq μ ν none := ⟨fun c h1 h2 => h.1 c (by omega) h1, h.2.1, fun c h1 _ => funext (fun j => h.2.2 c j (by omega)), h.2.2 _ _ (by omega), h.2.2 _ _ (by omega)⟩
theorem mq_tell {μ ν : bwM} (h : bw_fG μ ν) (A : Int) (b : Nat) : bw_mq μ (bw_sl (bw_sl ν 30 15 (lI A / lN (Nat.gcd A.natAbs b))) 30 16 (lN b / lN (Nat.gcd A.natAbs b))) (some (A, b)) := by
  refine ⟨fun c h1 h2 => h.1 c (by omega) h1, h.2.1, fun c h1 _ => ?_, ?_, bq_sle _ _ _ _⟩
  · funext j
    rw [bq_sl2, if_neg (by omega), bq_sl2, if_neg (by omega)]
    exact h.2.2 c j (by omega)
  · rw [bq_sl2, if_neg (by omega), bq_sle]
