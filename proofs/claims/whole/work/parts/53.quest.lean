/-! PURE: both, chance, wholes, expected, best, gain. -/
theorem J_both (d : Nat) {μ : bwM} (h : bwInv μ) (x y z w : Int32) : bwJ d 58 119 [.inl x, .inl y, .inl z, .inl w] [.inl x, .inl y, .inl z, .inl w] μ := by
  obtain ⟨st, ac, k, f, m, h⟩ := h
  have hS := inv_ok h
  have hC := h.2.1
  have hR := h.2.2.1
  have hn := ok_n hS
  by_cases hv : bw_isV (st k) x y
  · obtain ⟨a, b, ha, hb, rfl, rfl⟩ := hv
    have h4 := ok_v4 hS ha
    by_cases hv2 : bw_isV (st k) z w
    · obtain ⟨a2, b2, ha2, hb2, rfl, rfl⟩ := hv2
      have h42 := ok_v4 hS ha2
      by_cases hs : g_sound (st k)
      · obtain ⟨ν, ord, e1, e2, e3, e4⟩ := sB_trouble (d + 19) hS hC hs
        have hle := g_SUM_le hS hs
        by_cases h0 : g_SUM (st k) = 0
        · have hRν := cq_r (cq_S e4) hR
          obtain ⟨π, f1, f2⟩ := sM_refused (d + 35) hS hRν hs
          rw [if_pos h0] at e1 f1
          refine J_q h (r := -5) (t := none) ?_ (cq_S e4) ?_ (mq_G (fG_E f2))
          · rw [qX3_both, sW_hasV _ (Or.inl rfl) hS hC ha hb, bq_I, if_neg bq_ne10, sW_hasV _ (Or.inl rfl) hS hC ha2 hb2, bq_I, if_neg bq_ne10, qX3_both_27, e1, bq_I, if_neg (by decide)]
          · rw [qX4_both, sM_isV _ hS hRν ha hb, bq_I, if_neg bq_ne10, sM_isV _ hS hRν ha2 hb2, bq_I, if_neg bq_ne10, f1, bq_I, if_neg bq_m5]
        · have hsh := g_SH_le (st k) (some (a, b)) (some (a2, b2))
          obtain ⟨ν2, ord2, j1, j2, j3, j4⟩ := sS_goWith (d + 20) hS (fS_c e4 hC) ha hb
          have hfS := fS_trans e4 j4
          have htB := sB_tell (d + 37) (A := ((g_SH (st k) (some (a, b)) (some (a2, b2)) : Nat) : Int)) (b := g_SUM (st k)) (by omega) (by omega) (by omega) (by omega) ν2
          have hcq := cq_tell hfS ((g_SH (st k) (some (a, b)) (some (a2, b2)) : Nat) : Int) (g_SUM (st k))
          have hRν := cq_r hcq hR
          obtain ⟨π, f1, f2⟩ := sM_refused (d + 35) hS hRν hs
          rw [if_neg h0] at e1 f1
          obtain ⟨ρ, g1, g2⟩ := sM_sum (d + 37) hS (p := some (a, b)) (q := some (a2, b2)) (x1 := nI a) (x2 := nI b) (x3 := nI a2) (x4 := nI b2) ⟨rfl, rfl, ha, hb⟩ ⟨rfl, rfl, ha2, hb2⟩ (fE_r f2 hRν)
          obtain ⟨τ, υ, k1, k2, k3⟩ := sM_tells (d + 36) hS hs h0 (fG_E (fE_trans f2 g2)) hRν (A := ((g_SH (st k) (some (a, b)) (some (a2, b2)) : Nat) : Int)) (by omega) (by omega)
          refine J_q h (r := 1) ?_ hcq ?_ k3
          · rw [qX3_both, sW_hasV _ (Or.inl rfl) hS hC ha hb, bq_I, if_neg bq_ne10, sW_hasV _ (Or.inl rfl) hS hC ha2 hb2, bq_I, if_neg bq_ne10, qX3_both_27, e1, bq_I, if_pos rfl, j1, bq_V, qX3_both_63, sB_slot, bq_I, if_pos ((bq_ii (by omega)).2 (by omega)), nI_clamp (by omega), j3.2.1 a2 b2 ha2 (by omega), met_sh j2 (hok_some ha b), e3.1, met_sum e2, lI_N (g_SH _ _ _), htB, bq_V]
          · rw [qX4_both, sM_isV _ hS hRν ha hb, bq_I, if_neg bq_ne10, sM_isV _ hS hRν ha2 hb2, bq_I, if_neg bq_ne10, f1, bq_I, if_pos bq_ge0, g1, bq_L, k1, bq_L, show bp_S (fun c => if (g_tk (some (a, b)) c && g_tk (some (a2, b2)) c) = true then g_lik (st k) c else 0) (g_all (st k)) = g_SH (st k) (some (a, b)) (some (a2, b2)) from rfl, lI_N (g_SH _ _ _), k2, bq_I]
      · refine J_same (inv_same h) (r := -4) ?_ ?_
        · rw [qX3_both, sW_hasV _ (Or.inl rfl) hS hC ha hb, bq_I, if_neg bq_ne10, sW_hasV _ (Or.inl rfl) hS hC ha2 hb2, bq_I, if_neg bq_ne10, qX3_both_27, sB_rough _ hS hC hs, bq_I, if_neg (by decide)]
        · rw [qX4_both, sM_isV _ hS hR ha hb, bq_I, if_neg bq_ne10, sM_isV _ hS hR ha2 hb2, bq_I, if_neg bq_ne10, sM_ref_rough _ hS hR hs, bq_I, if_neg bq_m4]
    · refine J_same (inv_same h) (r := -1) ?_ ?_
      · rw [qX3_both, sW_hasV _ (Or.inl rfl) hS hC ha hb, bq_I, if_neg bq_ne10, sW_hasNV _ (Or.inl rfl) hS hC hv2, bq_I, if_pos rfl]
      · rw [qX4_both, sM_isV _ hS hR ha hb, bq_I, if_neg bq_ne10, sM_isNV _ hS hR hv2, bq_I, if_pos rfl]
  · refine J_same (inv_same h) (r := -1) ?_ ?_
    · rw [qX3_both, sW_hasNV _ (Or.inl rfl) hS hC hv, bq_I, if_pos rfl]
    · rw [qX4_both, sM_isNV _ hS hR hv, bq_I, if_pos rfl]
theorem sM_chance_go (d : Nat) {S : bwS} {μ : bwM} (hS : bwOK S) (hR : bwR' S μ) (k : Nat) (hk : k ≤ gN S) : eX4_chance d 14 [some (.inr (.inr 30)), some (.inr (.inl (lN (bp_prod (gT S) k)))), none, some (.inl (nI k))] [] μ = eX4_chance d 14 [some (.inr (.inr 30)), some (.inr (.inl (lN (bp_prod (gT S) (gN S))))), none, some (.inl (nI (gN S)))] [] μ := by
  have hn := ok_n hS
  induction hj : gN S - k generalizing k with
  | zero =>
    have : k = gN S := by omega
    subst this
    rfl
  | succ j ih =>
    have ht := ok_t100 hS (x := k) (by omega)
    rw [qX4_chance_14, rr_n hR, if_neg (nI_ge (by omega) (by omega)), if_pos ((bq_ii (by omega)).2 (by omega)), nI_clamp (by omega), rm_t hR (by omega), nI_l (by omega), lN_mul, nI_1]
    exact ih (k + 1) (by omega) (by omega)
theorem J_chance (d : Nat) {μ : bwM} (h : bwInv μ) : bwJ d 56 116 [] [] μ := by
  obtain ⟨st, ac, k, f, m, h⟩ := h
  have hS := inv_ok h
  have hC := h.2.1
  have hR := h.2.2.1
  have hn := ok_n hS
  by_cases hs : g_sound (st k)
  · obtain ⟨ν, ord, e1, e2, e3, e4⟩ := sS_goOver (d + 20) hS hC
    have hle := g_SUM_le hS hs
    have hpt := ok_pt hS
    have hp1 := bp_prod_pos (gT (st k)) (gN (st k)) (fun x hx => ok_t1 hS hx)
    have htB := sB_tell (d + 37) (A := ((g_SUM (st k) : Nat) : Int)) (b := bp_prod (gT (st k)) (gN (st k))) (by omega) (by omega) (by omega) (by omega) ν
    have hcq := cq_tell e4 ((g_SUM (st k) : Nat) : Int) (bp_prod (gT (st k)) (gN (st k)))
    have hRν := cq_r hcq hR
    obtain ⟨ρ, g1, g2⟩ := sM_all (d + 36) hS hRν
    have htM := sM_tell (d + 37) (A := ((g_SUM (st k) : Nat) : Int)) (b := bp_prod (gT (st k)) (gN (st k))) (by omega) (by omega) (by omega) (by omega) ρ
    refine J_q h (r := 1) ?_ hcq ?_ (mq_tell (fG_E g2) _ _)
    · rw [qX3_chance, sW_sound _ (Or.inl rfl) hS hC hs, bq_I, if_neg bq_ne10, e1, bq_V, sW_totals _ (Or.inl rfl) hS (fS_c e4 hC), bq_L, e3.1, met_sum e2, lI_N (g_SUM _), htB, bq_V]
    · rw [qX4_chance, sM_nrough _ hS hRν hs, bq_I, if_pos rfl, show Int64.ofNat 1 = lN (bp_prod (gT (st k)) 0) from rfl, show (0 : Int32) = nI 0 from rfl, sM_chance_go _ hS hRν 0 (by omega), qX4_chance_14, rr_n hRν, if_pos (nI_le (by omega) (by omega)), g1, bq_L, show bp_S (g_lik (st k)) (g_all (st k)) = g_SUM (st k) from rfl, lI_N (g_SUM _), htM, bq_I]
  · refine J_same (inv_same h) (r := -4) ?_ ?_
    · rw [qX3_chance, sW_nsound _ (Or.inl rfl) hS hC hs, bq_I, if_pos rfl]
    · rw [qX4_chance, sM_rough _ hS hR hs, bq_I, if_neg bq_ne10]
theorem J_wholes (d : Nat) {μ : bwM} (h : bwInv μ) : bwJ d 64 124 [] [] μ := by
  obtain ⟨st, ac, k, f, m, h⟩ := h
  have hS := inv_ok h
  have hC := h.2.1
  have hR := h.2.2.1
  by_cases hs : g_sound (st k)
  · obtain ⟨ν, ord, e1, e2, e3, e4⟩ := sS_goOver (d + 20) hS hC
    have hRν := cq_r (cq_S e4) hR
    obtain ⟨π, f1, f2⟩ := sM_cnt (d + 36) hS hs hRν
    have hlen : (g_met (st k) none ord).length = ((g_all (st k)).filter (g_pos (st k))).length := by
      rw [(g_met_perm (st k) none ord e2 (hok_none _)).length_eq]
      congr 2
      funext c
      show (decide (0 < g_lik (st k) c) && true) = _
      rw [Bool.and_true]
      rfl
    refine J_q h (r := nI ((g_all (st k)).filter (g_pos (st k))).length) ?_ (cq_S e4) f1 (mq_G (fG_E f2))
    rw [qX3_wholes, sW_sound _ (Or.inl rfl) hS hC hs, bq_I, if_neg bq_ne10, e1, bq_V, e3.2.2.1, hlen]
  · refine J_same (inv_same h) (r := -4) ?_ ?_
    · rw [qX3_wholes, sW_nsound _ (Or.inl rfl) hS hC hs, bq_I, if_pos rfl]
    · rw [qX4_wholes, sM_rough _ hS hR hs, bq_I, if_neg bq_ne10]
theorem J_expected (d : Nat) {μ : bwM} (h : bwInv μ) (x : Int32) : bwJ d 68 133 [.inl x] [.inl x] μ := by
  obtain ⟨st, ac, k, f, m, h⟩ := h
  have hS := inv_ok h
  have hC := h.2.1
  have hR := h.2.2.1
  by_cases hv : bw_isO (st k) x
  · obtain ⟨o, ho, rfl⟩ := hv
    by_cases hs : g_sound (st k)
    · obtain ⟨ν, ord, e1, e2, e3, e4⟩ := sB_trouble (d + 19) hS hC hs
      have hle := g_SUM_le hS hs
      by_cases h0 : g_SUM (st k) = 0
      · have hRν := cq_r (cq_S e4) hR
        obtain ⟨π, f1, f2⟩ := sM_refused (d + 35) hS hRν hs
        rw [if_pos h0] at e1 f1
        refine J_q h (r := -5) (t := none) ?_ (cq_S e4) ?_ (mq_G (fG_E f2))
        · rw [qX3_expected, sW_hasO _ (Or.inl rfl) hS hC ho, bq_I, if_neg bq_ne10, e1, bq_I, if_neg (by decide)]
        · rw [qX4_expected, sM_isO _ hS hRν ho, bq_I, if_neg bq_ne10, f1, bq_I, if_neg bq_m5]
      · have hb := g_WO_bound hS o none
        rw [g_SH_all] at hb
        have htB := sB_tell (d + 37) (A := g_WO (st k) o none) (b := g_SUM (st k)) (by omega) (by omega) (by omega) (by omega) ν
        have hcq := cq_tell e4 (g_WO (st k) o none) (g_SUM (st k))
        have hRν := cq_r hcq hR
        obtain ⟨π, f1, f2⟩ := sM_refused (d + 35) hS hRν hs
        rw [if_neg h0] at e1 f1
        obtain ⟨ρ, g1, g2⟩ := sM_worthOf (d + 37) hS ho (p := none) (x2 := -1) (x3 := 0) rfl (fE_r f2 hRν)
        obtain ⟨τ, υ, k1, k2, k3⟩ := sM_tells (d + 36) hS hs h0 (fG_E (fE_trans f2 g2)) hRν (A := g_WO (st k) o none) (by omega) (by omega)
        refine J_q h (r := 1) ?_ hcq ?_ k3
        · rw [qX3_expected, sW_hasO _ (Or.inl rfl) hS hC ho, bq_I, if_neg bq_ne10, e1, bq_I, if_pos rfl, sS_wsum _ hS (fS_c e4 hC) e2 (hok_none _) e3 ho, bq_L, e3.1, met_sum e2, htB, bq_V]
        · rw [qX4_expected, sM_isO _ hS hRν ho, bq_I, if_neg bq_ne10, f1, bq_I, if_pos bq_ge0, g1, bq_L, k1, bq_L]
          have hk2 := k2
          unfold g_WO at hk2
          rw [hk2, bq_I]
    · refine J_same (inv_same h) (r := -4) ?_ ?_
      · rw [qX3_expected, sW_hasO _ (Or.inl rfl) hS hC ho, bq_I, if_neg bq_ne10, sB_rough _ hS hC hs, bq_I, if_neg (by decide)]
      · rw [qX4_expected, sM_isO _ hS hR ho, bq_I, if_neg bq_ne10, sM_ref_rough _ hS hR hs, bq_I, if_neg bq_m4]
  · refine J_same (inv_same h) (r := -1) ?_ ?_
    · rw [qX3_expected, sW_hasNO _ (Or.inl rfl) hS hC hv, bq_I, if_pos rfl]
    · rw [qX4_expected, sM_isNO _ hS hR hv, bq_I, if_pos rfl]
theorem nI_opt {S : bwS} (hS : bwOK S) : nI (gO S) = 0 ↔ gO S = 0 := by
  have := ok_o hS
  constructor
  · intro hh
    exact (nI_eq (b := 0) (by omega) (by omega)).1 hh
  · intro hh
    rw [hh]; rfl
theorem J_best (d : Nat) {μ : bwM} (h : bwInv μ) : bwJ d 69 134 [] [] μ := by
  obtain ⟨st, ac, k, f, m, h⟩ := h
  have hS := inv_ok h
  have hC := h.2.1
  have hR := h.2.2.1
  by_cases hz : gO (st k) = 0
  · refine J_same (inv_same h) (r := -1) ?_ ?_
    · rw [qX3_best, rc_o hC, if_pos ((nI_opt hS).2 hz)]
    · rw [qX4_best, rr_o hR, if_pos ((nI_opt hS).2 hz)]
  · have hz' : 0 < gO (st k) := by omega
    have hne : ¬ nI (gO (st k)) = 0 := fun hh => hz ((nI_opt hS).1 hh)
    by_cases hs : g_sound (st k)
    · obtain ⟨ν, ord, e1, e2, e3, e4⟩ := sB_trouble (d + 19) hS hC hs
      have hle := g_SUM_le hS hs
      by_cases h0 : g_SUM (st k) = 0
      · have hRν := cq_r (cq_S e4) hR
        obtain ⟨π, f1, f2⟩ := sM_refused (d + 35) hS hRν hs
        rw [if_pos h0] at e1 f1
        refine J_q h (r := -5) (t := none) ?_ (cq_S e4) ?_ (mq_G (fG_E f2))
        · rw [qX3_best, rc_o hC, if_neg hne, e1, bq_I, if_neg (by decide)]
        · rw [qX4_best, rr_o hRν, if_neg hne, f1, bq_I, if_neg bq_m5]
      · have hb := g_G_bound hS none
        rw [g_SH_all] at hb
        have htB := sB_tell (d + 37) (A := g_G (st k) none) (b := g_SUM (st k)) (by omega) (by omega) (by omega) (by omega) ν
        have hcq := cq_tell e4 (g_G (st k) none) (g_SUM (st k))
        have hRν := cq_r hcq hR
        obtain ⟨π, f1, f2⟩ := sM_refused (d + 35) hS hRν hs
        rw [if_neg h0] at e1 f1
        obtain ⟨ρ, g1, g3, g2⟩ := sM_great (d + 36) hS (p := none) (x1 := -1) (x2 := 0) rfl hz' (fE_r f2 hRν)
        obtain ⟨τ, υ, k1, k2, k3⟩ := sM_tells (d + 36) hS hs h0 (fG_trans (fG_E f2) g2) hRν (A := g_G (st k) none) (by omega) (by omega)
        refine J_q h (r := nI (g_B (st k) none)) ?_ hcq ?_ k3
        · rw [qX3_best, rc_o hC, if_neg hne, e1, bq_I, if_pos rfl, sS_best _ hS (fS_c e4 hC) e2 (hok_none _) e3 hz', bq_I, sS_wsum _ hS (fS_c e4 hC) e2 (hok_none _) e3 (o := g_B (st k) none) (bp_best_lt _ _ hz'), bq_L, e3.1, met_sum e2]
          rw [show lI (g_WO (st k) (g_B (st k) none) none) = lI (g_G (st k) none) from rfl, htB, bq_V]
        · rw [qX4_best, rr_o hRν, if_neg hne, f1, bq_I, if_pos bq_ge0, g1, bq_L, k1, bq_L, k2, bq_I, g3]
    · refine J_same (inv_same h) (r := -4) ?_ ?_
      · rw [qX3_best, rc_o hC, if_neg hne, sB_rough _ hS hC hs, bq_I, if_neg (by decide)]
      · rw [qX4_best, rr_o hR, if_neg hne, sM_ref_rough _ hS hR hs, bq_I, if_neg bq_m4]
theorem J_gain (d : Nat) {μ : bwM} (h : bwInv μ) (x : Int32) : bwJ d 70 137 [.inl x] [.inl x] μ := by
  obtain ⟨st, ac, k, f, m, h⟩ := h
  have hS := inv_ok h
  have hC := h.2.1
  have hR := h.2.2.1
  by_cases hz : gO (st k) = 0
  · by_cases hv : bw_isT (st k) x
    · obtain ⟨a, ha, rfl⟩ := hv
      refine J_same (inv_same h) (r := -1) ?_ ?_
      · rw [qX3_gain, sW_hasT _ (Or.inl rfl) hS hC ha, bq_I, if_neg bq_ne10, rc_o hC, if_pos ((nI_opt hS).2 hz)]
      · rw [qX4_gain, rr_o hR, if_pos ((nI_opt hS).2 hz)]
    · refine J_same (inv_same h) (r := -1) ?_ ?_
      · rw [qX3_gain, sW_hasNT _ (Or.inl rfl) hS hC hv, bq_I, if_pos rfl]
      · rw [qX4_gain, rr_o hR, if_pos ((nI_opt hS).2 hz)]
  · have hz' : 0 < gO (st k) := by omega
    have hne : ¬ nI (gO (st k)) = 0 := fun hh => hz ((nI_opt hS).1 hh)
    by_cases hv : bw_isT (st k) x
    · obtain ⟨a, ha, rfl⟩ := hv
      by_cases hs : g_sound (st k)
      · obtain ⟨ν, ord, e1, e2, e3, e4⟩ := sB_trouble (d + 19) hS hC hs
        have hle := g_SUM_le hS hs
        by_cases h0 : g_SUM (st k) = 0
        · have hRν := cq_r (cq_S e4) hR
          obtain ⟨π, f1, f2⟩ := sM_refused (d + 35) hS hRν hs
          rw [if_pos h0] at e1 f1
          refine J_q h (r := -5) (t := none) ?_ (cq_S e4) ?_ (mq_G (fG_E f2))
          · rw [qX3_gain, sW_hasT _ (Or.inl rfl) hS hC ha, bq_I, if_neg bq_ne10, rc_o hC, if_neg hne, e1, bq_I, qX3_gain_28, if_neg (by decide)]
          · rw [qX4_gain, rr_o hRν, if_neg hne, sM_isT _ hS hRν ha, bq_I, if_neg bq_ne10, f1, bq_I, if_neg bq_m5]
        · have hCν := fS_c e4 hC
          have hgr := sS_great (d + 34) hS hCν e2 (hok_none _) e3 hz'
          by_cases hf : g_free (st k) a
          · have hb := g_gain_bound hS ha
            obtain ⟨ν2, j1, j2⟩ := sB_gs (d + 19) hS hz' ha hCν
            have hfS := fS_trans e4 j2
            have htB := sB_tell (d + 37) (A := g_gain (st k) a) (b := g_SUM (st k)) (by omega) (by omega) (by omega) (by omega) ν2
            have hcq := cq_tell hfS (g_gain (st k) a) (g_SUM (st k))
            have hRν := cq_r hcq hR
            obtain ⟨π, f1, f2⟩ := sM_refused (d + 35) hS hRν hs
            rw [if_neg h0] at e1 f1
            obtain ⟨ρ, g1, g2⟩ := sM_gainOf (d + 35) hS hz' ha hf (fE_r f2 hRν)
            obtain ⟨τ, υ, k1, k2, k3⟩ := sM_tells (d + 36) hS hs h0 (fG_trans (fG_E f2) g2) hRν (A := g_gain (st k) a) (by omega) (by omega)
            refine J_q h (r := 1) ?_ hcq ?_ k3
            · rw [qX3_gain, sW_hasT _ (Or.inl rfl) hS hC ha, bq_I, if_neg bq_ne10, rc_o hC, if_neg hne, e1, bq_I, qX3_gain_28, if_pos rfl, hgr, bq_L, qX3_gain_55, (sW_free _ (Or.inl rfl) hS hCν ha).1 hf, bq_I, if_neg bq_ne10, j1, bq_L, qX3_gain_78, e3.1, met_sum e2, htB, bq_V]
            · rw [qX4_gain, rr_o hRν, if_neg hne, sM_isT _ hS hRν ha, bq_I, if_neg bq_ne10, f1, bq_I, if_pos bq_ge0, g1, bq_L, k1, bq_L, k2, bq_I]
          · have htB := sB_tell (d + 37) (A := 0) (b := g_SUM (st k)) (by decide) (by decide) (by omega) (by omega) ν
            have hcq := cq_tell e4 0 (g_SUM (st k))
            have hRν := cq_r hcq hR
            obtain ⟨π, f1, f2⟩ := sM_refused (d + 35) hS hRν hs
            rw [if_neg h0] at e1 f1
            have g1 := sM_gainK (d + 35) hS ha hf (fE_r f2 hRν)
            obtain ⟨τ, υ, k1, k2, k3⟩ := sM_tells (d + 36) hS hs h0 (fG_E f2) hRν (A := 0) (by decide) (by decide)
            refine J_q h (r := 1) ?_ hcq ?_ k3
            · rw [qX3_gain, sW_hasT _ (Or.inl rfl) hS hC ha, bq_I, if_neg bq_ne10, rc_o hC, if_neg hne, e1, bq_I, qX3_gain_28, if_pos rfl, hgr, bq_L, qX3_gain_55, (sW_free _ (Or.inl rfl) hS hCν ha).2 hf, bq_I, if_pos rfl, qX3_gain_78, e3.1, met_sum e2, show Int64.ofNat 0 = lI 0 from rfl, htB, bq_V]
            · rw [qX4_gain, rr_o hRν, if_neg hne, sM_isT _ hS hRν ha, bq_I, if_neg bq_ne10, f1, bq_I, if_pos bq_ge0, g1, bq_L, k1, bq_L, k2, bq_I]
      · refine J_same (inv_same h) (r := -4) ?_ ?_
        · rw [qX3_gain, sW_hasT _ (Or.inl rfl) hS hC ha, bq_I, if_neg bq_ne10, rc_o hC, if_neg hne, sB_rough _ hS hC hs, bq_I, qX3_gain_28, if_neg (by decide)]
        · rw [qX4_gain, rr_o hR, if_neg hne, sM_isT _ hS hR ha, bq_I, if_neg bq_ne10, sM_ref_rough _ hS hR hs, bq_I, if_neg bq_m4]
    · refine J_same (inv_same h) (r := -1) ?_ ?_
      · rw [qX3_gain, sW_hasNT _ (Or.inl rfl) hS hC hv, bq_I, if_pos rfl]
      · rw [qX4_gain, rr_o hR, if_neg hne, sM_isNT _ hS hR hv, bq_I, if_pos rfl]
