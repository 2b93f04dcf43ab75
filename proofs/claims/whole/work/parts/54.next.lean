/-! PURE: most and next. -/
theorem lg_nlt {x y : Int64} (h : ¬ x < y) : y ≤ x := by
  rw [Int64.le_iff_toInt_le]
  rw [Int64.lt_iff_toInt_lt] at h
  omega
theorem lg_lt_nle {x y : Int64} (h : x < y) : ¬ y ≤ x := by
  rw [Int64.le_iff_toInt_le]
  rw [Int64.lt_iff_toInt_lt] at h
  omega
theorem sB_most_go (d : Nat) {S : bwS} (hS : bwOK S) {μ : bwM} (hR : bwC 2 S μ) {W : Nat → Int64} {x : Nat} (hx : x < gN S) (hW : ∀ v, v < gV S x → μ.2 27 (4 * x + v) = W v) (x2 : Int32) (k : Nat) (hk : k + 1 ≤ gV S x) : eX3_most (d + 1) 29 [some (.inr (.inr 0)), some (.inl (nI x)), some (.inl x2), some (.inl (nI (bp_best W (k + 1)))), some (.inl (nI (k + 1)))] [] μ = some (some (.inl (nI (bp_best W (gV S x)))), μ) := by
  have hn := ok_n hS
  have h4 := ok_v4 hS hx
  have hvx : μ.1 3 x = nI (gV S x) := ra_v hR.1 hx
  induction hj : gV S x - (k + 1) generalizing k with
  | zero =>
    have : k + 1 = gV S x := by omega
    rw [qX3_most_29, if_pos ((bq_ii (by omega)).2 (by omega)), nI_clamp (by omega), hvx, if_pos (nI_le (by omega) (by omega)), this]
  | succ j ih =>
    have hbl := bp_best_lt W (k + 1) (by omega)
    have hb : bp_best W (k + 1 + 1) = if W (bp_best W (k + 1)) < W (k + 1) then k + 1 else bp_best W (k + 1) := by
      rw [bp_best, if_neg (by omega)]
    have hi := ih (k + 1) (by omega) (by omega)
    rw [hb] at hi
    rw [qX3_most_29, if_pos ((bq_ii (by omega)).2 (by omega)), nI_clamp (by omega), hvx, if_neg (nI_ge (by omega) (by omega)), sB_slot, bq_I, if_pos ((bq_ii (by omega)).2 (by omega)), sB_slot, bq_I, if_pos ((bq_ii (by omega)).2 (by omega)), nI_clamp (n := 4 * x + (k + 1)) (by omega), nI_clamp (n := 4 * x + bp_best W (k + 1)) (by omega), hW _ (by omega), hW _ (by omega)]
    by_cases hlt : W (bp_best W (k + 1)) < W (k + 1)
    · rw [if_pos hlt] at hi
      rw [if_neg (fun hh => lg_lt_nle hlt ((lg_cmp_le _ _).1 hh)), qX3_most_74, qX3_most_77, nI_1]
      exact hi
    · rw [if_neg hlt] at hi
      rw [if_pos ((lg_cmp_le _ _).2 (lg_nlt hlt)), qX3_most_77, nI_1]
      exact hi
theorem sM_most_go (d : Nat) {S : bwS} (hS : bwOK S) {x : Nat} (hx : x < gN S) (x2 : Int32) (k : Nat) (hk : k + 1 ≤ gV S x) (o7 : Option bwV) (μ : bwM) (hR : bwR' S μ) : ∃ ν, eX4_most (d + 2) 36 [some (.inr (.inr 30)), some (.inl (nI x)), some (.inl x2), some (.inl (nI (bp_best (fun v => lN (g_SH S (some (x, v)) none)) (k + 1)))), some (.inr (.inl (lN (g_SH S (some (x, bp_best (fun v => lN (g_SH S (some (x, v)) none)) (k + 1))) none)))), none, some (.inl (nI (k + 1))), o7, none] [] μ = some (some (.inl (nI (bp_best (fun v => lN (g_SH S (some (x, v)) none)) (gV S x)))), ν) ∧ bw_fE μ ν := by
  have hn := ok_n hS
  have h4 := ok_v4 hS hx
  induction hj : gV S x - (k + 1) generalizing k o7 μ with
  | zero =>
    have : k + 1 = gV S x := by omega
    refine ⟨μ, ?_, fE_refl μ⟩
    rw [qX4_most_36, if_pos ((bq_ii (by omega)).2 (by omega)), nI_clamp (by omega), rm_v hR hx, if_pos (nI_le (by omega) (by omega)), this]
  | succ j ih =>
    obtain ⟨π, e1, e2⟩ := sM_sum d hS (p := some (x, k + 1)) (q := none) (x1 := nI x) (x2 := nI (k + 1)) (x3 := -1) (x4 := 0) ⟨rfl, rfl, hx, by omega⟩ rfl hR
    have hSH : bp_S (fun c => if (g_tk (some (x, k + 1)) c && g_tk none c) = true then g_lik S c else 0) (g_all S) = g_SH S (some (x, k + 1)) none := rfl
    rw [hSH] at e1
    have hb : bp_best (fun v => lN (g_SH S (some (x, v)) none)) (k + 1 + 1) = if lN (g_SH S (some (x, bp_best (fun v => lN (g_SH S (some (x, v)) none)) (k + 1))) none) < lN (g_SH S (some (x, k + 1)) none) then k + 1 else bp_best (fun v => lN (g_SH S (some (x, v)) none)) (k + 1) := by
      rw [bp_best, if_neg (by omega)]
    obtain ⟨ν, f1, f2⟩ := ih (k + 1) (by omega) (some (.inr (.inl (lN (g_SH S (some (x, k + 1)) none))))) π (fE_r e2 hR) (by omega)
    rw [hb] at f1
    refine ⟨ν, ?_, fE_trans e2 f2⟩
    rw [qX4_most_36, if_pos ((bq_ii (by omega)).2 (by omega)), nI_clamp (by omega), rm_v hR hx, if_neg (nI_ge (by omega) (by omega)), e1, bq_L, qX4_most_58]
    by_cases hlt : lN (g_SH S (some (x, bp_best (fun v => lN (g_SH S (some (x, v)) none)) (k + 1))) none) < lN (g_SH S (some (x, k + 1)) none)
    · rw [if_pos hlt] at f1
      rw [if_pos ((lg_cmp_gt _ _).2 hlt), qX4_most_76, nI_1]
      exact f1
    · rw [if_neg hlt] at f1
      rw [if_neg (fun hh => hlt ((lg_cmp_gt _ _).1 hh)), qX4_most_76, nI_1]
      exact f1
theorem J_most (d : Nat) {μ : bwM} (h : bwInv μ) (x : Int32) : bwJ d 61 120 [.inl x] [.inl x] μ := by
  obtain ⟨st, ac, k, f, m, h⟩ := h
  have hS := inv_ok h
  have hC := h.2.1
  have hR := h.2.2.1
  by_cases hv : bw_isT (st k) x
  · obtain ⟨a, ha, rfl⟩ := hv
    have h2 := ok_v2 hS ha
    have h4 := ok_v4 hS ha
    by_cases hs : g_sound (st k)
    · obtain ⟨ν, ord, e1, e2, e3, e4⟩ := sB_trouble (d + 19) hS hC hs
      have hRν := cq_r (cq_S e4) hR
      obtain ⟨π, f1, f2⟩ := sM_refused (d + 35) hS hRν hs
      by_cases h0 : g_SUM (st k) = 0
      · rw [if_pos h0] at e1 f1
        refine J_q h (r := -5) (t := none) ?_ (cq_S e4) ?_ (mq_G (fG_E f2))
        · rw [qX3_most, sW_hasT _ (Or.inl rfl) hS hC ha, bq_I, if_neg bq_ne10, e1, bq_I, if_neg (by decide)]
        · rw [qX4_most, sM_isT _ hS hRν ha, bq_I, if_neg bq_ne10, f1, bq_I, if_neg bq_m5]
      · rw [if_neg h0] at e1 f1
        have hcl := sB_most_go (d + 38) hS (fS_c e4 hC) (W := fun v => lN (g_SH (st k) (some (a, v)) none)) ha (fun v hv => by rw [e3.2.1 a v ha (by omega), met_sh e2 (hok_none _), g_SH_none]) 0 0 (by omega)
        obtain ⟨ρ, g1, g2⟩ := sM_sum (d + 37) hS (p := some (a, 0)) (q := none) (x1 := nI a) (x2 := 0) (x3 := -1) (x4 := 0) ⟨rfl, rfl, ha, by omega⟩ rfl (fE_r f2 hRν)
        obtain ⟨τ, k1, k2⟩ := sM_most_go (d + 37) hS ha 0 0 (by omega) none ρ (fE_r (fE_trans f2 g2) hRν)
        refine J_q h (r := nI (bp_best (fun v => lN (g_SH (st k) (some (a, v)) none)) (gV (st k) a))) (t := none) ?_ (cq_S e4) ?_ (mq_G (fG_E (fE_trans (fE_trans f2 g2) k2)))
        · rw [qX3_most, sW_hasT _ (Or.inl rfl) hS hC ha, bq_I, if_neg bq_ne10, e1, bq_I, if_pos rfl]
          exact hcl
        · rw [qX4_most, sM_isT _ hS hRν ha, bq_I, if_neg bq_ne10, f1, bq_I, if_pos bq_ge0, g1, bq_L, qX4_most_33]
          exact k1
    · refine J_same (inv_same h) (r := -4) ?_ ?_
      · rw [qX3_most, sW_hasT _ (Or.inl rfl) hS hC ha, bq_I, if_neg bq_ne10, sB_rough _ hS hC hs, bq_I, if_neg (by decide)]
      · rw [qX4_most, sM_isT _ hS hR ha, bq_I, if_neg bq_ne10, sM_ref_rough _ hS hR hs, bq_I, if_neg bq_m4]
  · refine J_same (inv_same h) (r := -1) ?_ ?_
    · rw [qX3_most, sW_hasNT _ (Or.inl rfl) hS hC hv, bq_I, if_pos rfl]
    · rw [qX4_most, sM_isNT _ hS hR hv, bq_I, if_pos rfl]
/-- the first free thing of the greatest gain -/
noncomputable def g_nx (S : bwS) : Nat → Option Nat
  | 0 => none
  | k + 1 => @ite (Option Nat) (g_free S k) (Classical.propDecidable _) (match g_nx S k with
    | none => some k
    | some b => if lI (g_gain S b) < lI (g_gain S k) then some k else some b) (g_nx S k)
def g_nxI (o : Option Nat) : Int32 := match o with
  | none => -6
  | some b => nI b
def g_nxG (S : bwS) (o : Option Nat) : Int64 := match o with
  | none => lI 0
  | some b => lI (g_gain S b)
theorem nx_free {S : bwS} {k : Nat} (h : g_free S k) : g_nx S (k + 1) = (match g_nx S k with
    | none => some k
    | some b => if lI (g_gain S b) < lI (g_gain S k) then some k else some b) := by
  rw [g_nx]; exact if_pos h
theorem nx_not {S : bwS} {k : Nat} (h : ¬ g_free S k) : g_nx S (k + 1) = g_nx S k := by
  rw [g_nx]; exact if_neg h
theorem nx_lt (S : bwS) (k b : Nat) (h : g_nx S k = some b) : b < k := by
  induction k generalizing b with
  | zero => rw [g_nx] at h; cases h
  | succ k ih =>
    by_cases hf : g_free S k
    · rw [nx_free hf] at h
      cases hk : g_nx S k with
      | none => rw [hk] at h; cases h; omega
      | some c =>
        rw [hk] at h
        dsimp only at h
        split at h
        · cases h; omega
        · cases h; have := ih _ hk; omega
    · rw [nx_not hf] at h
      have := ih b h
      omega
theorem sB_next_go (d : Nat) {S : bwS} (hS : bwOK S) (h0 : 0 < gO S) (x1 : Int32) (y2 : Int64) (k : Nat) (hk : k ≤ gN S) (μ : bwM) (hR : bwC 2 S μ) : ∃ ν, eX3_next (d + 20) 54 [some (.inr (.inr 0)), some (.inl x1), some (.inr (.inl y2)), none, some (.inr (.inl (lI (g_G S none)))), none, some (.inl (g_nxI (g_nx S k))), some (.inr (.inl (g_nxG S (g_nx S k)))), none, some (.inl (nI k)), none, none] [] μ = eX3_next (d + 20) 54 [some (.inr (.inr 0)), some (.inl x1), some (.inr (.inl y2)), none, some (.inr (.inl (lI (g_G S none)))), none, some (.inl (g_nxI (g_nx S (gN S)))), some (.inr (.inl (g_nxG S (g_nx S (gN S))))), none, some (.inl (nI (gN S))), none, none] [] ν ∧ bw_fS μ ν := by
  have hn := ok_n hS
  induction hj : gN S - k generalizing k μ with
  | zero =>
    have : k = gN S := by omega
    subst this
    exact ⟨μ, rfl, fS_refl μ⟩
  | succ j ih =>
    have hk' : k < gN S := by omega
    rw [qX3_next_54, show μ.1 2 0 = nI (gN S) from rc_n hR, if_neg (nI_ge (by omega) (by omega))]
    by_cases hf : g_free S k
    · obtain ⟨π, e1, e2⟩ := sB_gs d hS h0 hk' hR
      obtain ⟨ν, f1, f2⟩ := ih (k + 1) (by omega) π (fS_c e2 hR) (by omega)
      refine ⟨ν, ?_, fS_trans e2 f2⟩
      rw [nx_free hf] at f1
      rw [(sW_free _ (Or.inl rfl) hS hR hk').1 hf, bq_I, if_neg bq_ne10, e1, bq_L, qX3_next_88]
      cases ho : g_nx S k with
      | none =>
        rw [ho] at f1
        rw [if_pos (show g_nxI none = -6 from rfl), qX3_next_103, qX3_next_111, nI_1]
        exact f1
      | some b =>
        have hb := nx_lt S k b ho
        rw [ho] at f1
        dsimp only at f1
        have hne : ¬ g_nxI (some b) = -6 := fun hh => by
          have := nI_pos (n := b) (by omega)
          rw [show nI b = -6 from hh] at this
          exact this (by decide)
        rw [if_neg hne]
        by_cases hlt : g_nxG S (some b) < lI (g_gain S k)
        · rw [if_pos (show lI (g_gain S b) < lI (g_gain S k) from hlt)] at f1
          rw [if_neg (fun hh => lg_lt_nle hlt ((lg_cmp_le _ _).1 hh)), qX3_next_103, qX3_next_111, nI_1]
          exact f1
        · rw [if_neg (show ¬ lI (g_gain S b) < lI (g_gain S k) from hlt)] at f1
          rw [if_pos ((lg_cmp_le _ _).2 (lg_nlt hlt)), qX3_next_111, nI_1]
          exact f1
    · obtain ⟨ν, f1, f2⟩ := ih (k + 1) (by omega) μ hR (by omega)
      refine ⟨ν, ?_, f2⟩
      rw [nx_not hf] at f1
      rw [(sW_free _ (Or.inl rfl) hS hR hk').2 hf, bq_I, if_pos rfl, qX3_next_111, nI_1]
      exact f1
theorem sM_next_go2 (d : Nat) {S : bwS} (hS : bwOK S) (h0 : 0 < gO S) (x1 : Int32) (k : Nat) (hk : k ≤ gN S) (μ : bwM) (hR : bwR' S μ) : ∃ ν, eX4_next (d + 4) 28 [some (.inr (.inr 30)), some (.inl x1), some (.inl (g_nxI (g_nx S k))), some (.inr (.inl (g_nxG S (g_nx S k)))), none, some (.inl (nI k)), none, none] [] μ = eX4_next (d + 4) 28 [some (.inr (.inr 30)), some (.inl x1), some (.inl (g_nxI (g_nx S (gN S)))), some (.inr (.inl (g_nxG S (g_nx S (gN S))))), none, some (.inl (nI (gN S))), none, none] [] ν ∧ bw_fG μ ν := by
  have hn := ok_n hS
  induction hj : gN S - k generalizing k μ with
  | zero =>
    have : k = gN S := by omega
    subst this
    exact ⟨μ, rfl, fG_refl μ⟩
  | succ j ih =>
    have hk' : k < gN S := by omega
    rw [qX4_next_28, rr_n hR, if_neg (nI_ge (by omega) (by omega))]
    by_cases hf : g_free S k
    · obtain ⟨π, e1, e2⟩ := sM_gainOf d hS h0 hk' hf hR
      obtain ⟨ν, f1, f2⟩ := ih (k + 1) (by omega) π (fG_r e2 hR) (by omega)
      refine ⟨ν, ?_, fG_trans e2 f2⟩
      rw [nx_free hf] at f1
      rw [(sM_known _ hS hR hk').1 hf, bq_I, if_pos rfl, e1, bq_L, qX4_next_57]
      cases ho : g_nx S k with
      | none =>
        rw [ho] at f1
        rw [if_pos (by decide), qX4_next_71, qX4_next_77, nI_1]
        exact f1
      | some b =>
        have hb := nx_lt S k b ho
        rw [ho] at f1
        dsimp only at f1
        rw [if_neg (show ¬ g_nxI (some b) < 0 from nI_pos (by omega))]
        by_cases hlt : g_nxG S (some b) < lI (g_gain S k)
        · rw [if_pos (show lI (g_gain S b) < lI (g_gain S k) from hlt)] at f1
          rw [if_pos ((lg_cmp_gt _ _).2 hlt), qX4_next_71, qX4_next_77, nI_1]
          exact f1
        · rw [if_neg (show ¬ lI (g_gain S b) < lI (g_gain S k) from hlt)] at f1
          rw [if_neg (fun hh => hlt ((lg_cmp_gt _ _).1 hh)), qX4_next_77, nI_1]
          exact f1
    · obtain ⟨ν, f1, f2⟩ := ih (k + 1) (by omega) μ hR (by omega)
      refine ⟨ν, ?_, f2⟩
      rw [nx_not hf] at f1
      rw [(sM_known _ hS hR hk').2 hf, bq_I, if_neg bq_ne10, qX4_next_77, nI_1]
      exact f1
theorem J_next (d : Nat) {μ : bwM} (h : bwInv μ) : bwJ d 71 138 [] [] μ := by
  obtain ⟨st, ac, k, f, m, h⟩ := h
  have hS := inv_ok h
  have hC := h.2.1
  have hR := h.2.2.1
  have hn := ok_n hS
  by_cases hz : gO (st k) = 0
  · refine J_same (inv_same h) (r := -1) ?_ ?_
    · rw [qX3_next, rc_o hC, if_pos ((nI_opt hS).2 hz)]
    · rw [qX4_next, rr_o hR, if_pos ((nI_opt hS).2 hz)]
  · have hz' : 0 < gO (st k) := by omega
    have hne : ¬ nI (gO (st k)) = 0 := fun hh => hz ((nI_opt hS).1 hh)
    by_cases hs : g_sound (st k)
    · obtain ⟨ν, ord, e1, e2, e3, e4⟩ := sB_trouble (d + 19) hS hC hs
      have hle := g_SUM_le hS hs
      by_cases h0 : g_SUM (st k) = 0
      · have hRν := cq_r (cq_S e4) hR
        obtain ⟨π, f1, f2⟩ := sM_refused (d + 35) hS hRν hs
        rw [if_pos h0] at e1 f1
        refine J_q h (r := -5) (t := none) ?_ (cq_S e4) ?_ (mq_G (fG_E f2))
        · rw [qX3_next, rc_o hC, if_neg hne, e1, bq_I, if_neg (by decide)]
        · rw [qX4_next, rr_o hRν, if_neg hne, f1, bq_I, if_neg bq_m5]
      · have hCν := fS_c e4 hC
        have hgr := sS_great (d + 34) hS hCν e2 (hok_none _) e3 hz'
        rw [if_neg h0] at e1
        obtain ⟨ν2, j1, j2⟩ := sB_next_go (d + 19) hS hz' 0 (lN (g_SUM (st k))) 0 (by omega) ν hCν
        have hfS := fS_trans e4 j2
        have hC2 := fS_c hfS hC
        have hend : bw_call (d + 40) 71 [.inr (.inr 0)] μ = eX3_next (d + 39) 54 [some (.inr (.inr 0)), some (.inl 0), some (.inr (.inl (lN (g_SUM (st k))))), none, some (.inr (.inl (lI (g_G (st k) none)))), none, some (.inl (g_nxI (g_nx (st k) (gN (st k))))), some (.inr (.inl (g_nxG (st k) (g_nx (st k) (gN (st k)))))), none, some (.inl (nI (gN (st k)))), none, none] [] ν2 := by
          rw [qX3_next, rc_o hC, if_neg hne, e1, bq_I, if_pos rfl, e3.1, met_sum e2, qX3_next_31, hgr, bq_L]
          exact j1
        rw [qX3_next_54, show ν2.1 2 0 = nI (gN (st k)) from rc_n hC2, if_pos (nI_le (by omega) (by omega))] at hend
        cases ho : g_nx (st k) (gN (st k)) with
        | none =>
          rw [ho, if_pos (show g_nxI none = -6 from rfl)] at hend
          have hRν := cq_r (cq_S hfS) hR
          obtain ⟨π, f1, f2⟩ := sM_refused (d + 35) hS hRν hs
          rw [if_neg h0] at f1
          obtain ⟨ρ, g1, g2⟩ := sM_next_go2 (d + 35) hS hz' 0 0 (by omega) π (fE_r f2 hRν)
          refine J_q h (r := -6) (t := none) hend (cq_S hfS) ?_ (mq_G (fG_trans (fG_E f2) g2))
          rw [qX4_next, rr_o hRν, if_neg hne, f1, bq_I, if_pos bq_ge0, qX4_next_25]
          refine Eq.trans g1 ?_
          rw [qX4_next_28, rr_n (fG_r (fG_trans (fG_E f2) g2) hRν), if_pos (nI_le (by omega) (by omega)), ho, if_pos (by decide)]
          rfl
        | some b =>
          have hbl := nx_lt _ _ _ ho
          have hne6 : ¬ g_nxI (some b) = -6 := fun hh => by
            have := nI_pos (n := b) (by omega)
            rw [show nI b = -6 from hh] at this
            exact this (by decide)
          have hb := g_gain_bound hS hbl
          have htB := sB_tell (d + 37) (A := g_gain (st k) b) (b := g_SUM (st k)) (by omega) (by omega) (by omega) (by omega) ν2
          have hcq := cq_tell hfS (g_gain (st k) b) (g_SUM (st k))
          have hRν := cq_r hcq hR
          obtain ⟨π, f1, f2⟩ := sM_refused (d + 35) hS hRν hs
          rw [if_neg h0] at f1
          obtain ⟨ρ, g1, g2⟩ := sM_next_go2 (d + 35) hS hz' 0 0 (by omega) π (fE_r f2 hRν)
          obtain ⟨τ, υ, k1, k2, k3⟩ := sM_tells (d + 36) hS hs h0 (fG_trans (fG_E f2) g2) hRν (A := g_gain (st k) b) (by omega) (by omega)
          rw [ho, if_neg hne6, show g_nxG (st k) (some b) = lI (g_gain (st k) b) from rfl, htB, bq_V] at hend
          refine J_q h (r := nI b) hend hcq ?_ k3
          rw [qX4_next, rr_o hRν, if_neg hne, f1, bq_I, if_pos bq_ge0, qX4_next_25]
          refine Eq.trans g1 ?_
          rw [qX4_next_28, rr_n (fG_r (fG_trans (fG_E f2) g2) hRν), if_pos (nI_le (by omega) (by omega)), ho, if_neg (show ¬ g_nxI (some b) < 0 from nI_pos (by omega)), k1, bq_L, show g_nxG (st k) (some b) = lI (g_gain (st k) b) from rfl, k2, bq_I]
          rfl
    · refine J_same (inv_same h) (r := -4) ?_ ?_
      · rw [qX3_next, rc_o hC, if_neg hne, sB_rough _ hS hC hs, bq_I, if_neg (by decide)]
      · rw [qX4_next, rr_o hR, if_neg hne, sM_ref_rough _ hS hR hs, bq_I, if_neg bq_m4]
