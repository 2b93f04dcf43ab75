/-! PURE: what the class asks of its survey. -/
theorem sB_rough (d : Nat) {S : bwS} (hS : bwOK S) {μ : bwM} (hR : bwC 2 S μ) (hs : ¬ g_sound S) : bw_call (d + 5) 75 [.inr (.inr 0)] μ = some (some (.inl (-4)), μ) := by
  rw [qX3_trouble, sW_nsound _ (Or.inl rfl) hS hR hs, bq_I, if_pos rfl]
theorem sB_trouble (d : Nat) {S : bwS} (hS : bwOK S) {μ : bwM} (hR : bwC 2 S μ) (hs : g_sound S) : ∃ ν ord, bw_call (d + 20) 75 [.inr (.inr 0)] μ = some (some (.inl (if g_SUM S = 0 then -5 else 0)), ν) ∧ g_ord S ord ∧ bw_sv S (g_met S none ord) 0 ν ∧ bw_fS μ ν := by
  obtain ⟨ν, ord, e1, e2, e3, e4⟩ := sS_goOver d hS hR
  refine ⟨ν, ord, ?_, e2, e3, e4⟩
  have hle := g_SUM_le hS hs
  rw [qX3_trouble, sW_sound _ (Or.inl rfl) hS hR hs, bq_I, if_neg bq_ne10, e1, bq_V, e3.1, met_sum e2, show Int64.ofNat 0 = lN 0 from rfl]
  by_cases h : g_SUM S = 0
  · rw [if_pos ((lg_cmp_eq _ _).2 (by rw [h])), if_pos h]
  · rw [if_neg (fun hh => h ((pk_lEQ (by omega) (by omega)).1 ((lg_cmp_eq _ _).1 hh))), if_neg h]
/-- the shares in memory -/
def bw_shm (S : bwS) (sh : Nat → Nat → Nat) (ν : bwM) : Prop := ∀ y u, y < gN S → u < 4 → ν.2 27 (4 * y + u) = lN (sh y u)
theorem sv_shm {S : bwS} {M : List (Nat → Nat)} {w : Nat} {ν : bwM} (h : bw_sv S M w ν) : bw_shm S (g_sh S M) ν := h.2.1
theorem sS_ws_in (d : Nat) {S : bwS} (hS : bwOK S) {μ : bwM} (hR : bwC 2 S μ) {sh : Nat → Nat → Nat} (hsh : bw_shm S sh μ) {o x : Nat} (ho : o < gO S) (hx : x < gN S) (A : Int) (v : Nat) (hv : v ≤ gV S x) : eX1_worthSum (d + 2) 17 [some (.inr (.inr 24)), some (.inr (.inr 2)), some (.inl (nI o)), some (.inr (.inl (lI (A + bp_isum (fun v => (gU S o x v).toInt * (sh x v : Int)) v)))), none, some (.inl (nI x)), some (.inl (nI v))] [] μ = eX1_worthSum (d + 2) 5 [some (.inr (.inr 24)), some (.inr (.inr 2)), some (.inl (nI o)), some (.inr (.inl (lI (A + bp_isum (fun v => (gU S o x v).toInt * (sh x v : Int)) (gV S x))))), none, some (.inl (nI (x + 1))), some (.inl (nI (gV S x)))] [] μ := by
  have hn := ok_n hS
  have hno := ok_o hS
  have h4 := ok_v4 hS hx
  induction hj : gV S x - v generalizing v with
  | zero =>
    have : v = gV S x := by omega
    subst this
    rw [qX1_worthSum_17, if_pos ((bq_ii (by omega)).2 (by omega)), nI_clamp (by omega), ra_v hR.1 hx, if_pos (nI_le (by omega) (by omega)), nI_1]
  | succ j ih =>
    rw [qX1_worthSum_17, if_pos ((bq_ii (by omega)).2 (by omega)), nI_clamp (by omega), ra_v hR.1 hx, if_neg (nI_ge (by omega) (by omega)), sB_worthSlot, bq_I, if_pos ((bq_ii (by omega)).2 (by omega)), sB_slot, bq_I, if_pos ((bq_ii (by omega)).2 (by omega)), nI_clamp (n := 48 * o + 4 * x + v) (by omega), nI_clamp (n := 4 * x + v) (by omega), ra_u hR.1 ho hx (by omega), hsh x v hx (by omega), lI_i, lI_N, lI_mul, lI_add, nI_1, Int.add_assoc]
    exact ih (v + 1) (by omega) (by omega)
theorem sS_ws_go (d : Nat) {S : bwS} (hS : bwOK S) {μ : bwM} (hR : bwC 2 S μ) {sh : Nat → Nat → Nat} (hsh : bw_shm S sh μ) {o : Nat} (ho : o < gO S) (x : Nat) (hx : x ≤ gN S) (o6 : Option bwV) : eX1_worthSum (d + 2) 5 [some (.inr (.inr 24)), some (.inr (.inr 2)), some (.inl (nI o)), some (.inr (.inl (lI (g_ws S o sh x)))), none, some (.inl (nI x)), o6] [] μ = some (some (.inr (.inl (lI (g_ws S o sh (gN S))))), μ) := by
  have hn := ok_n hS
  induction hj : gN S - x generalizing x o6 with
  | zero =>
    have : x = gN S := by omega
    subst this
    rw [qX1_worthSum_5, rc_n hR, if_pos (nI_le (by omega) (by omega))]
  | succ j ih =>
    have hin := sS_ws_in d hS hR hsh ho (x := x) (by omega) (g_ws S o sh x) 0 (by omega)
    rw [bp_isum, Int.add_zero] at hin
    rw [qX1_worthSum_5, rc_n hR, if_neg (nI_ge (by omega) (by omega)), show (0 : Int32) = nI 0 from rfl, hin]
    exact ih (x + 1) (by omega) _ (by omega)
/-- Survey.worthSum -/
theorem sS_ws (d : Nat) {S : bwS} (hS : bwOK S) {μ : bwM} (hR : bwC 2 S μ) {sh : Nat → Nat → Nat} (hsh : bw_shm S sh μ) {o : Nat} (ho : o < gO S) : bw_call (d + 3) 14 [.inr (.inr 24), .inr (.inr 2), .inl (nI o)] μ = some (some (.inr (.inl (lI (g_ws S o sh (gN S))))), μ) := by
  rw [qX1_worthSum]
  exact sS_ws_go d hS hR hsh ho 0 (by omega) none
theorem sS_best_go (d : Nat) {S : bwS} (hS : bwOK S) {μ : bwM} (hR : bwC 2 S μ) {sh : Nat → Nat → Nat} (hsh : bw_shm S sh μ) (k : Nat) (hk : k + 1 ≤ gO S) : eX1_bestOption (d + 3) 4 [some (.inr (.inr 24)), some (.inr (.inr 2)), some (.inl (nI (bp_best (fun o => lI (g_ws S o sh (gN S))) (k + 1)))), some (.inl (nI (k + 1)))] [] μ = some (some (.inl (nI (bp_best (fun o => lI (g_ws S o sh (gN S))) (gO S)))), μ) := by
  have hno := ok_o hS
  induction hj : gO S - (k + 1) generalizing k with
  | zero =>
    have : k + 1 = gO S := by omega
    rw [qX1_bestOption_4, rc_o hR, if_pos (nI_le (by omega) (by omega)), this]
  | succ j ih =>
    have hbl := bp_best_lt (fun o => lI (g_ws S o sh (gN S))) (k + 1) (by omega)
    have hb : bp_best (fun o => lI (g_ws S o sh (gN S))) (k + 1 + 1) = if lI (g_ws S (bp_best (fun o => lI (g_ws S o sh (gN S))) (k + 1)) sh (gN S)) < lI (g_ws S (k + 1) sh (gN S)) then k + 1 else bp_best (fun o => lI (g_ws S o sh (gN S))) (k + 1) := by
      rw [bp_best, if_neg (by omega)]
    have hi := ih (k + 1) (by omega) (by omega)
    rw [hb] at hi
    rw [qX1_bestOption_4, rc_o hR, if_neg (nI_ge (by omega) (by omega)), sS_ws d hS hR hsh (by omega), bq_L, sS_ws d hS hR hsh (by omega), bq_L]
    by_cases hlt : lI (g_ws S (bp_best (fun o => lI (g_ws S o sh (gN S))) (k + 1)) sh (gN S)) < lI (g_ws S (k + 1) sh (gN S))
    · rw [if_pos hlt] at hi
      rw [if_neg (fun hh => by
        have := (lg_cmp_le _ _).1 hh
        rw [Int64.le_iff_toInt_le] at this
        rw [Int64.lt_iff_toInt_lt] at hlt
        omega), qX1_bestOption_30, nI_1]
      exact hi
    · rw [if_neg hlt] at hi
      rw [if_pos ((lg_cmp_le _ _).2 (by
        rw [Int64.le_iff_toInt_le]
        rw [Int64.lt_iff_toInt_lt] at hlt
        omega)), qX1_bestOption_30, nI_1]
      exact hi
/-- Survey.bestOption, over a survey of those held -/
theorem sS_best (d : Nat) {S : bwS} (hS : bwOK S) {μ : bwM} (hR : bwC 2 S μ) {held : Option (Nat × Nat)} {ord : List Nat} (ho : g_ord S ord) (hh : g_hok S held) {w : Nat} (hsv : bw_sv S (g_met S held ord) w μ) (h0 : 0 < gO S) : bw_call (d + 4) 15 [.inr (.inr 24), .inr (.inr 2)] μ = some (some (.inl (nI (g_B S held))), μ) := by
  have h := sS_best_go d hS hR (sv_shm hsv) 0 (by omega)
  have hW : (fun o => lI (g_ws S o (g_sh S (g_met S held ord)) (gN S))) = g_W S held := by
    funext o
    rw [met_ws ho hh]; rfl
  rw [hW] at h
  rw [qX1_bestOption]
  exact h
theorem sS_wsum (d : Nat) {S : bwS} (hS : bwOK S) {μ : bwM} (hR : bwC 2 S μ) {held : Option (Nat × Nat)} {ord : List Nat} (ho : g_ord S ord) (hh : g_hok S held) {w : Nat} (hsv : bw_sv S (g_met S held ord) w μ) {o : Nat} (hoo : o < gO S) : bw_call (d + 3) 14 [.inr (.inr 24), .inr (.inr 2), .inl (nI o)] μ = some (some (.inr (.inl (lI (g_WO S o held)))), μ) := by
  rw [sS_ws d hS hR (sv_shm hsv) hoo, met_ws ho hh]
/-- Survey.greatestWorthSum -/
theorem sS_great (d : Nat) {S : bwS} (hS : bwOK S) {μ : bwM} (hR : bwC 2 S μ) {held : Option (Nat × Nat)} {ord : List Nat} (ho : g_ord S ord) (hh : g_hok S held) {w : Nat} (hsv : bw_sv S (g_met S held ord) w μ) (h0 : 0 < gO S) : bw_call (d + 5) 16 [.inr (.inr 24), .inr (.inr 2)] μ = some (some (.inr (.inl (lI (g_G S held)))), μ) := by
  rw [qX1_greatestWorthSum, sS_best d hS hR ho hh hsv h0, bq_I, sS_wsum _ hS hR ho hh hsv (o := g_B S held) (bp_best_lt _ _ h0), bq_L]
  rfl
theorem hok_none (S : bwS) : g_hok S none := fun a b h => by cases h
theorem hok_some {S : bwS} {x : Nat} (hx : x < gN S) (v : Nat) : g_hok S (some (x, v)) := fun a b h => by cases h; exact hx
theorem sB_gs_go (d : Nat) {S : bwS} (hS : bwOK S) (h0 : 0 < gO S) {x : Nat} (hx : x < gN S) (G : Int) (v : Nat) (hv : v ≤ gV S x) (μ : bwM) (hR : bwC 2 S μ) : ∃ ν, eX3_gainSum (d + 19) 6 [some (.inr (.inr 0)), some (.inl (nI x)), some (.inr (.inl (lI G))), none, some (.inr (.inl (lI (bp_isum (fun v => g_G S (some (x, v))) v)))), none, some (.inl (nI v))] [] μ = some (some (.inr (.inl (lI (bp_isum (fun v => g_G S (some (x, v))) (gV S x) - G)))), ν) ∧ bw_fS μ ν := by
  have hn := ok_n hS
  have h4 := ok_v4 hS hx
  induction hj : gV S x - v generalizing v μ with
  | zero =>
    have : v = gV S x := by omega
    subst this
    refine ⟨μ, ?_, fS_refl μ⟩
    rw [qX3_gainSum_6, if_pos ((bq_ii (by omega)).2 (by omega)), nI_clamp (by omega), show μ.1 3 x = nI (gV S x) from ra_v hR.1 hx, if_pos (nI_le (by omega) (by omega))]
    rw [show lI (bp_isum (fun v => g_G S (some (x, v))) (gV S x)) - lI G = lI (bp_isum (fun v => g_G S (some (x, v))) (gV S x) - G) from (Int64.ofInt_sub _ _).symm]
  | succ j ih =>
    obtain ⟨π, ord, e1, e2, e3, e4⟩ := sS_goWith d hS hR hx (show v < gV S x by omega)
    obtain ⟨ν, f1, f2⟩ := ih (v + 1) (by omega) π (fS_c e4 hR) (by omega)
    refine ⟨ν, ?_, fS_trans e4 f2⟩
    rw [qX3_gainSum_6, if_pos ((bq_ii (by omega)).2 (by omega)), nI_clamp (by omega), show μ.1 3 x = nI (gV S x) from ra_v hR.1 hx, if_neg (nI_ge (by omega) (by omega)), e1, bq_V, qX3_gainSum_34, sS_great (d + 14) hS (fS_c e4 hR) e2 (hok_some hx v) e3 h0, bq_L, lI_add, nI_1]
    exact f1
/-- BeliefWeb.gainSum -/
theorem sB_gs (d : Nat) {S : bwS} (hS : bwOK S) (h0 : 0 < gO S) {x : Nat} (hx : x < gN S) {μ : bwM} (hR : bwC 2 S μ) : ∃ ν, bw_call (d + 20) 79 [.inr (.inr 0), .inl (nI x), .inr (.inl (lI (g_G S none)))] μ = some (some (.inr (.inl (lI (g_gain S x)))), ν) ∧ bw_fS μ ν := by
  obtain ⟨ν, e1, e2⟩ := sB_gs_go d hS h0 hx (g_G S none) 0 (by omega) μ hR
  exact ⟨ν, by rw [qX3_gainSum]; exact e1, e2⟩
/-- what a question leaves: the survey may change, and what up and down tell -/
def bw_cq (μ ν : bwM) (t : Option (Int × Nat)) : Prop := (∀ c, c < 24 ∨ 29 < c → ν.1 c = μ.1 c) ∧ (∀ c, 0 < c → c < 24 ∨ 29 < c → ν.2 c = μ.2 c) ∧ match t with
  | none => ν.2 0 5 = μ.2 0 5 ∧ ν.2 0 6 = μ.2 0 6
  | some (A, b) => ν.2 0 5 = lI A / lN (Nat.gcd A.natAbs b) ∧ ν.2 0 6 = lN b / lN (Nat.gcd A.natAbs b)
theorem cq_S {μ ν : bwM} (h : bw_fS μ ν) : bw_cq μ ν none := ⟨h.1, fun c _ hc => h.2 c hc, by rw [h.2 0 (by omega)]; exact ⟨rfl, rfl⟩⟩
theorem cq_tell {μ ν : bwM} (h : bw_fS μ ν) (A : Int) (b : Nat) : bw_cq μ (bw_sl (bw_sl ν 0 5 (lI A / lN (Nat.gcd A.natAbs b))) 0 6 (lN b / lN (Nat.gcd A.natAbs b))) (some (A, b)) := by
  refine ⟨h.1, fun c h1 hc => ?_, ?_, bq_sle _ _ _ _⟩
  · rw [← h.2 c hc]
    funext j
    rw [bq_sl2, if_neg (by omega), bq_sl2, if_neg (by omega)]
  · rw [bq_sl2, if_neg (by omega), bq_sle]
