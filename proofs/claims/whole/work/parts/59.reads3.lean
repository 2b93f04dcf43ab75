/-! PURE: the calls that only read, joined. -/
theorem J_told (d : Nat) {μ : bwM} (h : bwInv μ) (x y z : Int32) : bwJ d 49 96 [.inl x, .inl y, .inl z] [.inl x, .inl y, .inl z] μ := by
  have h' := h
  obtain ⟨st, ac, k, f, m, h⟩ := h
  have hS := inv_ok h
  have hC := h.2.1
  have hR := h.2.2.1
  have hn := ok_n hS
  by_cases hw : bw_isW (st k) x y z
  · obtain ⟨a, r, v, ha, hr, hv, rfl, rfl, rfl⟩ := hw
    have h4 := ok_v4 hS ha
    have h64 := (g_rows_pos hS ha).2
    refine J_same h' (r := nI (gW (st k) a r v)) ?_ ?_
    · rw [qX3_told, sW_hasW _ (Or.inl rfl) hS hC ha hr hv, bq_I, if_neg bq_ne10, sB_weightSlot, bq_I, if_pos ((bq_ii (by omega)).2 (by omega)), nI_clamp (by omega), show μ.1 7 (256 * a + 4 * r + v) = nI (gW (st k) a r v) from ra_w hC.1 ha hr hv]
    · rw [qX4_told, sM_isW _ hS hR ha hr hv, bq_I, if_neg bq_ne10, bq_256, if_pos ((bq_ii (by omega)).2 (by omega)), nI_clamp (by omega), rm_w hR ha hr hv]
  · refine J_same h' (r := -1) ?_ ?_
    · rw [qX3_told, sW_hasNW _ (Or.inl rfl) hS hC hw, bq_I, if_pos rfl]
    · rw [qX4_told, sM_isNW _ hS hR hw, bq_I, if_pos rfl]
theorem J_about (d : Nat) {μ : bwM} (h : bwInv μ) (x y : Int32) : bwJ d 50 98 [.inl x, .inl y] [.inl x, .inl y] μ := by
  have h' := h
  obtain ⟨st, ac, k, f, m, h⟩ := h
  have hS := inv_ok h
  have hC := h.2.1
  have hR := h.2.2.1
  have hn := ok_n hS
  by_cases hv : bw_isT (st k) x
  · obtain ⟨a, ha, rfl⟩ := hv
    have hb := hC.1.1 a ha
    have hc := hR.1.1 a ha
    have e1 : bw_call (d + 40) 50 [.inr (.inr 0), .inl (nI a), .inl y] μ = if y = (0 : Int32) then some (some (.inl (nI (gV (st k) a))), μ) else if y = (1 : Int32) then some (some (.inl (nI (gT (st k) a))), μ) else if y = (2 : Int32) then some (some (.inl (nI (gP (st k) a).length)), μ) else if y = (3 : Int32) then some (some (.inl (nI (g_rows (st k) a))), μ) else if y = (4 : Int32) then bw_bI (bw_call (d + 39) 29 [.inr (.inr 2), .inl (nI a)] μ) none (fun r6 m5 => if r6 = 0 then some (some (.inl (0 : Int32)), m5) else some (some (.inl (1 : Int32)), m5)) else if y = (5 : Int32) then some (some (.inl (bo_I (gS (st k) a))), μ) else if y = (6 : Int32) then some (some (.inl (bo_I (gD (st k) a))), μ) else some (some (.inl (-1 : Int32)), μ) := by
      rw [qX3_about, sW_hasT _ (Or.inl rfl) hS hC ha, bq_I, if_neg bq_ne10, sW_rows _ (Or.inl rfl) hS hC ha, bq_I]
      simp only [bq_it (show a < 12 by omega) (by decide), nI_clamp (show a < 2 ^ 31 by omega)]
      rw [show μ.1 3 a = nI (gV (st k) a) from hb.1, show μ.1 4 a = nI (gT (st k) a) from hb.2.1, show μ.1 5 a = nI (gP (st k) a).length from hb.2.2.1, show μ.1 8 a = bo_I (gS (st k) a) from hb.2.2.2.1, show μ.1 9 a = bo_I (gD (st k) a) from hb.2.2.2.2]
    have e2 : bw_call (d + 40) 98 [.inr (.inr 30), .inl (nI a), .inl y] μ = if y = (0 : Int32) then some (some (.inl (nI (gV (st k) a))), μ) else if y = (1 : Int32) then some (some (.inl (nI (gT (st k) a))), μ) else if y = (2 : Int32) then some (some (.inl (nI (gP (st k) a).length)), μ) else if y = (3 : Int32) then some (some (.inl (nI (g_rows (st k) a))), μ) else if y = (4 : Int32) then bw_bI (bw_call (d + 39) 97 [.inr (.inr 30), .inl (nI a)] μ) none (fun r6 m5 => if r6 = 0 then some (some (.inl (0 : Int32)), m5) else some (some (.inl (1 : Int32)), m5)) else if y = (5 : Int32) then some (some (.inl (bo_I (gS (st k) a))), μ) else if y = (6 : Int32) then some (some (.inl (bo_I (gD (st k) a))), μ) else some (some (.inl (-1 : Int32)), μ) := by
      rw [qX4_about, sM_isT _ hS hR ha, bq_I, if_neg bq_ne10, sM_rows _ hS hR ha, bq_I]
      simp only [bq_it (show a < 12 by omega) (by decide), nI_clamp (show a < 2 ^ 31 by omega)]
      rw [rm_v hR ha, rm_t hR ha, rm_c hR ha, rm_s hR ha, rm_d hR ha]
    have e3 : ∃ r : Int32, bw_call (d + 39) 29 [.inr (.inr 2), .inl (nI a)] μ = some (some (.inl r), μ) ∧ bw_call (d + 39) 97 [.inr (.inr 30), .inl (nI a)] μ = some (some (.inl r), μ) := by
      by_cases hs : g_st (st k) a
      · exact ⟨1, sW_st _ (Or.inl rfl) hS hC ha hs, sM_st _ hS hR ha hs⟩
      · exact ⟨0, sW_nst _ (Or.inl rfl) hS hC ha hs, sM_nst _ hS hR ha hs⟩
    obtain ⟨r, r1, r2⟩ := e3
    rw [r1, bq_I] at e1
    rw [r2, bq_I] at e2
    have key : ∃ r', bw_call (d + 40) 50 [.inr (.inr 0), .inl (nI a), .inl y] μ = some (some (.inl r'), μ) := by
      rw [e1]
      split
      · exact ⟨_, rfl⟩
      · split
        · exact ⟨_, rfl⟩
        · split
          · exact ⟨_, rfl⟩
          · split
            · exact ⟨_, rfl⟩
            · split
              · split
                · exact ⟨_, rfl⟩
                · exact ⟨_, rfl⟩
              · split
                · exact ⟨_, rfl⟩
                · split
                  · exact ⟨_, rfl⟩
                  · exact ⟨_, rfl⟩
    obtain ⟨r', hr'⟩ := key
    exact J_same h' hr' (e2.trans (e1.symm.trans hr'))
  · refine J_same h' (r := -1) ?_ ?_
    · rw [qX3_about, sW_hasNT _ (Or.inl rfl) hS hC hv, bq_I, if_pos rfl]
    · rw [qX4_about, sM_isNT _ hS hR hv, bq_I, if_pos rfl]
theorem J_parent (d : Nat) {μ : bwM} (h : bwInv μ) (x y : Int32) : bwJ d 51 99 [.inl x, .inl y] [.inl x, .inl y] μ := by
  have h' := h
  obtain ⟨st, ac, k, f, m, h⟩ := h
  have hS := inv_ok h
  have hC := h.2.1
  have hR := h.2.2.1
  have hn := ok_n hS
  by_cases hv : bw_isT (st k) x
  · obtain ⟨a, ha, rfl⟩ := hv
    have h3 := ok_p3 hS ha
    have hb3 : μ.1 5 a = nI (gP (st k) a).length := ra_c hC.1 ha
    rcases pk_ix y (n := (gP (st k) a).length) (by omega) with hy | hy | ⟨i, hi, rfl⟩
    · refine J_same h' (r := -2) ?_ ?_
      · rw [qX3_parent, sW_hasT _ (Or.inl rfl) hS hC ha, bq_I, if_neg bq_ne10, if_pos hy]
      · rw [qX4_parent, sM_isT _ hS hR ha, bq_I, if_neg bq_ne10, if_pos hy]
    · by_cases hy0 : y < 0
      · refine J_same h' (r := -2) ?_ ?_
        · rw [qX3_parent, sW_hasT _ (Or.inl rfl) hS hC ha, bq_I, if_neg bq_ne10, if_pos hy0]
        · rw [qX4_parent, sM_isT _ hS hR ha, bq_I, if_neg bq_ne10, if_pos hy0]
      · refine J_same h' (r := -2) ?_ ?_
        · rw [qX3_parent, sW_hasT _ (Or.inl rfl) hS hC ha, bq_I, if_neg bq_ne10, if_neg hy0, if_pos ((bq_ii (by omega)).2 (by omega)), nI_clamp (by omega), hb3, if_neg (fun hh => by
            rw [Int32.lt_iff_toInt_lt] at hh
            rw [Int32.le_iff_toInt_le] at hy
            omega)]
        · rw [qX4_parent, sM_isT _ hS hR ha, bq_I, if_neg bq_ne10, if_neg hy0, if_pos ((bq_ii (by omega)).2 (by omega)), nI_clamp (n := a) (by omega), rm_c hR ha, if_pos hy]
    · refine J_same h' (r := nI (gP (st k) a)[i]) ?_ ?_
      · rw [qX3_parent, sW_hasT _ (Or.inl rfl) hS hC ha, bq_I, if_neg bq_ne10, if_neg (nI_pos (by omega)), if_pos ((bq_ii (by omega)).2 (by omega)), nI_clamp (by omega), hb3, if_pos (nI_lt hi (by omega)), sB_parentSlot, bq_I, if_pos ((bq_ii (by omega)).2 (by omega)), nI_clamp (by omega), show μ.1 6 (3 * a + i) = nI (gP (st k) a)[i] from ra_p hC.1 ha hi]
      · rw [qX4_parent, sM_isT _ hS hR ha, bq_I, if_neg bq_ne10, if_neg (nI_pos (by omega)), if_pos ((bq_ii (by omega)).2 (by omega)), nI_clamp (n := a) (by omega), rm_c hR ha, if_neg (nI_ge hi (by omega)), bq_3, if_pos ((bq_ii (by omega)).2 (by omega)), nI_clamp (by omega), rm_p hR ha hi]
  · refine J_same h' (r := -2) ?_ ?_
    · rw [qX3_parent, sW_hasNT _ (Or.inl rfl) hS hC hv, bq_I, if_pos rfl]
    · rw [qX4_parent, sM_isNT _ hS hR hv, bq_I, if_pos rfl]
theorem J_sound (d : Nat) {μ : bwM} (h : bwInv μ) : bwJ d 52 101 [] [] μ := by
  have h' := h
  obtain ⟨st, ac, k, f, m, h⟩ := h
  have hS := inv_ok h
  have hC := h.2.1
  have hR := h.2.2.1
  by_cases hs : g_sound (st k)
  · refine J_same h' (r := 1) ?_ ?_
    · rw [qX3_sound, sW_sound _ (Or.inl rfl) hS hC hs, bq_I, if_neg bq_ne10]
    · rw [qX4_sound, sM_nrough _ hS hR hs, bq_I, if_pos rfl]
  · refine J_same h' (r := 0) ?_ ?_
    · rw [qX3_sound, sW_nsound _ (Or.inl rfl) hS hC hs, bq_I, if_pos rfl]
    · rw [qX4_sound, sM_rough _ hS hR hs, bq_I, if_neg bq_ne10]
theorem J_at (d : Nat) {μ : bwM} (h : bwInv μ) (x : Int32) : bwJ d 63 123 [.inl x] [.inl x] μ := by
  have h' := h
  obtain ⟨st, ac, k, f, m, h⟩ := h
  obtain ⟨_, _, _, _, _, hm, h04, h18, hsh⟩ := h
  rcases pk_ix x (n := m) (by omega) with hy | hy | ⟨i, hi, rfl⟩
  · refine J_same h' (r := -2) ?_ ?_
    · rw [qX3_at, if_pos hy]
    · rw [qX4_at, if_pos hy]
  · refine J_same h' (r := -2) ?_ ?_
    · rw [qX3_at, h04, if_pos hy]; split <;> rfl
    · rw [qX4_at, h18, if_pos hy]; split <;> rfl
  · refine J_same h' (r := μ.1 42 i) ?_ ?_
    · rw [qX3_at, if_neg (nI_pos (by omega)), h04, if_neg (nI_ge hi (by omega)), if_pos ((bq_ii (by omega)).2 (by omega)), nI_clamp (by omega), hsh i hi]
    · rw [qX4_at, if_neg (nI_pos (by omega)), h18, if_neg (nI_ge hi (by omega)), if_pos ((bq_ii (by omega)).2 (by omega)), nI_clamp (by omega)]
theorem sW_arrows_go (d : Nat) {w : Nat} (hw : w = 2 ∨ w = 12) {S : bwS} {μ : bwM} (hS : bwOK S) (hR : bwC w S μ) (k : Nat) (hk : k ≤ gN S) : eX2_arrows d 4 [some (.inr (.inr w)), some (.inl (nI (bp_sum (fun x => (gP S x).length) k))), some (.inl (nI k))] [] μ = some (some (.inl (nI (bp_sum (fun x => (gP S x).length) (gN S)))), μ) := by
  have hn := ok_n hS
  induction hj : gN S - k generalizing k with
  | zero =>
    have : k = gN S := by omega
    subst this
    rw [qX2_arrows_4 _ hw, rc_n hR, if_pos (nI_le (by omega) (by omega))]
  | succ j ih =>
    rw [qX2_arrows_4 _ hw, rc_n hR, if_neg (nI_ge (by omega) (by omega)), if_pos ((bq_ii (by omega)).2 (by omega)), nI_clamp (by omega), ra_c hR.1 (by omega), nI_add, nI_1]
    exact ih (k + 1) (by omega) (by omega)
theorem sM_count_go (d : Nat) {S : bwS} {μ : bwM} (hS : bwOK S) (hR : bwR' S μ) (x1 : Int32) (k : Nat) (hk : k ≤ gN S) : eX4_count d 4 [some (.inr (.inr 30)), some (.inl x1), some (.inl (nI (bp_sum (fun x => (gP S x).length) k))), some (.inl (nI k))] [] μ = if x1 = 0 then some (some (.inl (nI (gN S))), μ) else if x1 = (1 : Int32) then some (some (.inl (nI (bp_sum (fun x => (gP S x).length) (gN S)))), μ) else if x1 = (2 : Int32) then some (some (.inl (nI (gO S))), μ) else if x1 = (3 : Int32) then some (some (.inl (μ.1 30 25)), μ) else some (some (.inl (-1 : Int32)), μ) := by
  have hn := ok_n hS
  induction hj : gN S - k generalizing k with
  | zero =>
    have : k = gN S := by omega
    subst this
    rw [qX4_count_4, rr_n hR, if_pos (nI_le (by omega) (by omega)), rr_o hR]
  | succ j ih =>
    rw [qX4_count_4, rr_n hR, if_neg (nI_ge (by omega) (by omega)), if_pos ((bq_ii (by omega)).2 (by omega)), nI_clamp (by omega), rm_c hR (by omega), nI_add, nI_1]
    exact ih (k + 1) (by omega) (by omega)
theorem J_count (d : Nat) {μ : bwM} (h : bwInv μ) (x : Int32) : bwJ d 73 141 [.inl x] [.inl x] μ := by
  have h' := h
  obtain ⟨st, ac, k, f, m, h⟩ := h
  have hS := inv_ok h
  have hC := h.2.1
  have hR := h.2.2.1
  have h22 : μ.1 22 3 = nI k := h.1.2.2.2.1
  have h25 : μ.1 30 25 = nI k := h.2.2.2.1.2.1
  have e2 := (qX4_count (d + 39) x μ).trans (sM_count_go (d + 39) hS hR x 0 (by omega))
  rw [h25] at e2
  have e1 : bw_call (d + 40) 73 [.inr (.inr 0), .inl x] μ = if x = 0 then some (some (.inl (nI (gN (st k)))), μ) else if x = (1 : Int32) then some (some (.inl (nI (bp_sum (fun x => (gP (st k) x).length) (gN (st k))))), μ) else if x = (2 : Int32) then some (some (.inl (nI (gO (st k)))), μ) else if x = (3 : Int32) then some (some (.inl (nI k)), μ) else some (some (.inl (-1 : Int32)), μ) := by
    have ha := sW_arrows_go (d + 38) (Or.inl rfl) hS hC 0 (by omega)
    rw [qX3_count, show μ.1 2 0 = nI (gN (st k)) from rc_n hC, show μ.1 2 1 = nI (gO (st k)) from rc_o hC, h22, qX2_arrows _ (Or.inl rfl)]
    rw [show (bw_bI (eX2_arrows (d + 38) 4 [some (.inr (.inr 2)), some (.inl (0 : Int32)), some (.inl (0 : Int32))] [] μ) none (fun r2 m1 => some (some (.inl r2), m1)) : Option bwR) = some (some (.inl (nI (bp_sum (fun x => (gP (st k) x).length) (gN (st k))))), μ) from (congrArg (fun z => (bw_bI z none (fun r2 m1 => some (some (.inl r2), m1)) : Option bwR)) ha).trans (bq_I _ _ _ _)]
  have key : ∃ r', bw_call (d + 40) 73 [.inr (.inr 0), .inl x] μ = some (some (.inl r'), μ) := by
    rw [e1]
    split
    · exact ⟨_, rfl⟩
    · split
      · exact ⟨_, rfl⟩
      · split
        · exact ⟨_, rfl⟩
        · split
          · exact ⟨_, rfl⟩
          · exact ⟨_, rfl⟩
  obtain ⟨r', hr'⟩ := key
  exact J_same h' hr' (e2.trans (e1.symm.trans hr'))
