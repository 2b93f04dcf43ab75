/-! PURE: the calls that change a web, joined (arrow stands later). -/
theorem inv_act {st : Nat → bwS} {ac : Nat → bwOp} {k f m : Nat} {μ ν π : bwM} (h : bwI st ac k f m μ) {op : bwOp} {S' : bwS} (h1 : bwH (bh_st k st S') (bh_ac k ac op) (bh_k k) (bh_f k f) ν) (h2 : bwC 2 S' ν) (h3 : ν.2 = μ.2) (h4 : ∀ c, c < 2 ∨ 23 < c → ν.1 c = μ.1 c) (h5 : bwR' S' π) (h6 : bwL (bh_st k st S') (bh_k k) π) (h7 : bw_fM ν π) : bwInv π := by
  obtain ⟨_, _, _, _, k5, k6, k7, k8, k9⟩ := h
  refine ⟨bh_st k st S', bh_ac k ac op, bh_k k, bh_f k f, m, fr_h h1 (fun c _ h => h7.2.2 c (by omega)), ?_, ?_, h6, ?_, k6, ?_, ?_, fun x hx => ?_⟩
  · rw [bh_last]; exact fr_c h2 (fun i hi => h7.2.2 _ (by omega))
  · rw [bh_last]; exact h5
  · rw [h7.1, h3]; exact k5
  · rw [h7.2.2 0 (by omega), h4 0 (by omega)]; exact k7
  · rw [h7.2.1, h4 30 (by omega)]; exact k8
  · rw [h7.2.2 1 (by omega), h4 1 (by omega), h7.2.2 42 (by omega), h4 42 (by omega)]; exact k9 x hx
theorem act_r {S : bwS} {μ ν : bwM} (h : bwR' S μ) (h4 : ∀ c, c < 2 ∨ 23 < c → ν.1 c = μ.1 c) : bwR' S ν := fr_r h (fun i hi h0 => h4 _ (by omega)) (by rw [h4 30 (by omega)]) (by rw [h4 30 (by omega)])
theorem act_l {st : Nat → bwS} {k : Nat} {μ ν : bwM} (h : bwL st k μ) (h4 : ∀ c, c < 2 ∨ 23 < c → ν.1 c = μ.1 c) : bwL st k ν := fr_l h (by rw [h4 30 (by omega)]) (fun c h1 h2 => h4 c (by omega))
theorem J_weight (d : Nat) {μ : bwM} (h : bwInv μ) (x y z w : Int32) : bwJ d 48 95 [.inl x, .inl y, .inl z, .inl w] [.inl x, .inl y, .inl z, .inl w] μ := by
  have h' := h
  obtain ⟨st, ac, k, f, m, h⟩ := h
  have hS := inv_ok h
  have hC := h.2.1
  have hR := h.2.2.1
  have hn := ok_n hS
  by_cases hw : bw_isW (st k) x y z
  · obtain ⟨a, r, v, ha, hr, hv, rfl, rfl, rfl⟩ := hw
    have h4 := ok_v4 hS ha
    have h64 := (g_rows_pos hS ha).2
    have ht := ok_t100 hS ha
    have hm4 : μ.1 4 a = nI (gT (st k) a) := ra_t hC.1 ha
    by_cases hw0 : w < 0
    · refine J_same h' (r := -1) ?_ ?_
      · rw [qX3_weight, sW_hasW _ (Or.inl rfl) hS hC ha hr hv, bq_I, if_neg bq_ne10, if_pos hw0]
      · rw [qX4_weight, sM_isW _ hS hR ha hr hv, bq_I, if_neg bq_ne10, if_pos hw0]
    · by_cases hwt : w ≤ nI (gT (st k) a)
      · obtain ⟨q, _, hq, rfl⟩ := bp_dec (a := 0) (by omega) (by omega) hw0 hwt
        obtain ⟨ν, e1, e2, e3, e4, e5⟩ := sB_carry (d + 31) h.1 hC (op := (2, nI a, nI r, nI v, nI q)) (S' := bo_weight a r v q (st k)) (Or.inr (Or.inr (Or.inl ⟨a, r, v, q, rfl, ha, hr, hv, hq, rfl⟩))) (ok_weight hS hq)
        obtain ⟨π, f1, f2, f3, f4⟩ := sM_weight (d + 36) (act_l h.2.2.2.1 e5) (act_r hR e5) ha hr hv hq
        refine ⟨nI (gW (st k) a r v), ν, π, ?_, f1, inv_act h e2 e3 e4 e5 f2 f3 f4⟩
        rw [qX3_weight, sW_hasW _ (Or.inl rfl) hS hC ha hr hv, bq_I, if_neg bq_ne10, if_neg hw0, if_pos ((bq_ii (by omega)).2 (by omega)), nI_clamp (by omega), hm4, if_pos hwt, sB_weightSlot, bq_I, if_pos ((bq_ii (by omega)).2 (by omega)), nI_clamp (by omega), show μ.1 7 (256 * a + 4 * r + v) = nI (gW (st k) a r v) from ra_w hC.1 ha hr hv, qX3_weight_50]
        rw [show bw_call (d + 39) 74 [.inr (.inr 0), .inl (2 : Int32), .inl (nI a), .inl (nI r), .inl (nI v), .inl (nI q)] μ = some (none, ν) from e1, bq_V]
      · refine J_same h' (r := -1) ?_ ?_
        · rw [qX3_weight, sW_hasW _ (Or.inl rfl) hS hC ha hr hv, bq_I, if_neg bq_ne10, if_neg hw0, if_pos ((bq_ii (by omega)).2 (by omega)), nI_clamp (by omega), hm4, if_neg hwt]
        · rw [qX4_weight, sM_isW _ hS hR ha hr hv, bq_I, if_neg bq_ne10, if_neg hw0, if_pos ((bq_ii (by omega)).2 (by omega)), nI_clamp (by omega), rm_t hR ha, if_neg hwt]
  · refine J_same h' (r := -1) ?_ ?_
    · rw [qX3_weight, sW_hasNW _ (Or.inl rfl) hS hC hw, bq_I, if_pos rfl]
    · rw [qX4_weight, sM_isNW _ hS hR hw, bq_I, if_pos rfl]
theorem J_see (d : Nat) {μ : bwM} (h : bwInv μ) (x y : Int32) : bwJ d 53 104 [.inl x, .inl y] [.inl x, .inl y] μ := by
  have h' := h
  obtain ⟨st, ac, k, f, m, h⟩ := h
  have hS := inv_ok h
  have hC := h.2.1
  have hR := h.2.2.1
  by_cases hw : bw_isK (st k) x y
  · obtain ⟨a, o, ha, ho, rfl, rfl⟩ := hw
    obtain ⟨ν, e1, e2, e3, e4, e5⟩ := sB_carry (d + 31) h.1 hC (op := (3, nI a, bo_I o, 0, 0)) (S' := bo_known a o none (st k)) (Or.inr (Or.inr (Or.inr (Or.inl ⟨a, o, rfl, ha, ho, rfl⟩)))) (ok_known hS ho (fun v hv => by cases hv) (Or.inr rfl))
    obtain ⟨π, f1, f2, f3, f4⟩ := sM_becomes (d + 37) (act_l h.2.2.2.1 e5) (act_r hR e5) (s := o) (u := none) ha ho (fun v hv => by cases hv) (Or.inr rfl)
    refine ⟨1, ν, π, ?_, ?_, inv_act h e2 e3 e4 e5 f2 f3 f4⟩
    · rw [qX3_see, sW_may _ (Or.inl rfl) hS hC ha ho, bq_I, if_neg bq_ne10]
      rw [show bw_call (d + 39) 74 [.inr (.inr 0), .inl (3 : Int32), .inl (nI a), .inl (bo_I o), .inl (0 : Int32), .inl (0 : Int32)] μ = some (none, ν) from e1, bq_V]
    · rw [qX4_see, sM_may _ hS (act_r hR e5) ha ho, bq_I, if_neg bq_ne10]
      rw [show bw_call (d + 39) 103 [.inr (.inr 30), .inl (nI a), .inl (bo_I o), .inl (-1 : Int32)] ν = some (some (.inl 1), π) from f1, bq_I]
  · refine J_same h' (r := -1) ?_ ?_
    · rw [qX3_see, sW_nmay _ (Or.inl rfl) hS hC hw, bq_I, if_pos rfl]
    · rw [qX4_see, sM_nmay _ hS hR hw, bq_I, if_pos rfl]
theorem J_act (d : Nat) {μ : bwM} (h : bwInv μ) (x y : Int32) : bwJ d 54 105 [.inl x, .inl y] [.inl x, .inl y] μ := by
  have h' := h
  obtain ⟨st, ac, k, f, m, h⟩ := h
  have hS := inv_ok h
  have hC := h.2.1
  have hR := h.2.2.1
  by_cases hw : bw_isK (st k) x y
  · obtain ⟨a, o, ha, ho, rfl, rfl⟩ := hw
    obtain ⟨ν, e1, e2, e3, e4, e5⟩ := sB_carry (d + 31) h.1 hC (op := (4, nI a, bo_I o, 0, 0)) (S' := bo_known a none o (st k)) (Or.inr (Or.inr (Or.inr (Or.inr (Or.inl ⟨a, o, rfl, ha, ho, rfl⟩))))) (ok_known hS (fun v hv => by cases hv) ho (Or.inl rfl))
    obtain ⟨π, f1, f2, f3, f4⟩ := sM_becomes (d + 37) (act_l h.2.2.2.1 e5) (act_r hR e5) (s := none) (u := o) ha (fun v hv => by cases hv) ho (Or.inl rfl)
    refine ⟨1, ν, π, ?_, ?_, inv_act h e2 e3 e4 e5 f2 f3 f4⟩
    · rw [qX3_act, sW_may _ (Or.inl rfl) hS hC ha ho, bq_I, if_neg bq_ne10]
      rw [show bw_call (d + 39) 74 [.inr (.inr 0), .inl (4 : Int32), .inl (nI a), .inl (bo_I o), .inl (0 : Int32), .inl (0 : Int32)] μ = some (none, ν) from e1, bq_V]
    · rw [qX4_act, sM_may _ hS (act_r hR e5) ha ho, bq_I, if_neg bq_ne10]
      rw [show bw_call (d + 39) 103 [.inr (.inr 30), .inl (nI a), .inl (-1 : Int32), .inl (bo_I o)] ν = some (some (.inl 1), π) from f1, bq_I]
  · refine J_same h' (r := -1) ?_ ?_
    · rw [qX3_act, sW_nmay _ (Or.inl rfl) hS hC hw, bq_I, if_pos rfl]
    · rw [qX4_act, sM_nmay _ hS hR hw, bq_I, if_pos rfl]
theorem J_force (d : Nat) {μ : bwM} (h : bwInv μ) (x y z : Int32) : bwJ d 55 106 [.inl x, .inl y, .inl z] [.inl x, .inl y, .inl z] μ := by
  have h' := h
  obtain ⟨st, ac, k, f, m, h⟩ := h
  have hS := inv_ok h
  have hC := h.2.1
  have hR := h.2.2.1
  have hn := ok_n hS
  by_cases hw : bw_isV (st k) x y
  · obtain ⟨a, v, ha, hv, rfl, rfl⟩ := hw
    have h4 := ok_v4 hS ha
    by_cases hw0 : z < 0
    · refine J_same h' (r := -1) ?_ ?_
      · rw [qX3_force, sW_hasV _ (Or.inl rfl) hS hC ha hv, bq_I, if_neg bq_ne10, if_pos hw0]
      · rw [qX4_force, sM_isV _ hS hR ha hv, bq_I, if_neg bq_ne10, if_pos hw0]
    · by_cases hwt : z ≤ (3 : Int32)
      · obtain ⟨q, _, hq, rfl⟩ := bp_dec (a := 0) (b := 3) (by omega) (by omega) hw0 hwt
        obtain ⟨ν, e1, e2, e3, e4, e5⟩ := sB_carry (d + 31) h.1 hC (op := (5, nI a, nI v, nI q, 0)) (S' := bo_force a v q (st k)) (Or.inr (Or.inr (Or.inr (Or.inr (Or.inr (Or.inl ⟨a, v, q, rfl, ha, hv, hq, rfl⟩)))))) (ok_force hS hq)
        obtain ⟨π, f1, f2, f3, f4⟩ := sM_force (d + 37) (act_l h.2.2.2.1 e5) (act_r hR e5) ha hv hq
        refine ⟨nI (gF (st k) a v), ν, π, ?_, f1, inv_act h e2 e3 e4 e5 f2 f3 f4⟩
        rw [qX3_force, sW_hasV _ (Or.inl rfl) hS hC ha hv, bq_I, if_neg bq_ne10, if_neg hw0, if_pos hwt, sB_slot, bq_I, if_pos ((bq_ii (by omega)).2 (by omega)), nI_clamp (by omega), show μ.1 10 (4 * a + v) = nI (gF (st k) a v) from ra_f hC.1 ha hv, qX3_force_38]
        rw [show bw_call (d + 39) 74 [.inr (.inr 0), .inl (5 : Int32), .inl (nI a), .inl (nI v), .inl (nI q), .inl (0 : Int32)] μ = some (none, ν) from e1, bq_V]
      · refine J_same h' (r := -1) ?_ ?_
        · rw [qX3_force, sW_hasV _ (Or.inl rfl) hS hC ha hv, bq_I, if_neg bq_ne10, if_neg hw0, if_neg hwt]
        · rw [qX4_force, sM_isV _ hS hR ha hv, bq_I, if_neg bq_ne10, if_neg hw0, if_neg hwt]
  · refine J_same h' (r := -1) ?_ ?_
    · rw [qX3_force, sW_hasNV _ (Or.inl rfl) hS hC hw, bq_I, if_pos rfl]
    · rw [qX4_force, sM_isNV _ hS hR hw, bq_I, if_pos rfl]
theorem J_options (d : Nat) {μ : bwM} (h : bwInv μ) (x : Int32) : bwJ d 66 128 [.inl x] [.inl x] μ := by
  have h' := h
  obtain ⟨st, ac, k, f, m, h⟩ := h
  have hS := inv_ok h
  have hC := h.2.1
  have hR := h.2.2.1
  by_cases hw0 : x < 0
  · refine J_same h' (r := -1) ?_ ?_
    · rw [qX3_options, if_pos hw0]
    · rw [qX4_options, if_pos hw0]
  · by_cases hwt : x ≤ (6 : Int32)
    · obtain ⟨q, _, hq, rfl⟩ := bp_dec (a := 0) (b := 6) (by omega) (by omega) hw0 hwt
      obtain ⟨ν, e1, e2, e3, e4, e5⟩ := sB_carry (d + 31) h.1 hC (op := (6, nI q, 0, 0, 0)) (S' := bo_options q (st k)) (Or.inr (Or.inr (Or.inr (Or.inr (Or.inr (Or.inr (Or.inl ⟨q, rfl, hq, rfl⟩))))))) (ok_options hS hq)
      obtain ⟨π, f1, f2, f3, f4⟩ := sM_options (d + 38) (act_l h.2.2.2.1 e5) (act_r hR e5) hq
      refine ⟨nI (gO (st k)), ν, π, ?_, f1, inv_act h e2 e3 e4 e5 f2 f3 f4⟩
      rw [qX3_options, if_neg hw0, if_pos hwt]
      rw [show bw_call (d + 39) 74 [.inr (.inr 0), .inl (6 : Int32), .inl (nI q), .inl (0 : Int32), .inl (0 : Int32), .inl (0 : Int32)] μ = some (none, ν) from e1, bq_V, show μ.1 2 1 = nI (gO (st k)) from rc_o hC]
    · refine J_same h' (r := -1) ?_ ?_
      · rw [qX3_options, if_neg hw0, if_neg hwt]
      · rw [qX4_options, if_neg hw0, if_neg hwt]
theorem J_worth (d : Nat) {μ : bwM} (h : bwInv μ) (x y z w : Int32) : bwJ d 67 130 [.inl x, .inl y, .inl z, .inl w] [.inl x, .inl y, .inl z, .inl w] μ := by
  have h' := h
  obtain ⟨st, ac, k, f, m, h⟩ := h
  have hS := inv_ok h
  have hC := h.2.1
  have hR := h.2.2.1
  have hn := ok_n hS
  have hno := ok_o hS
  by_cases ho : bw_isO (st k) x
  · obtain ⟨o, ho, rfl⟩ := ho
    by_cases hw : bw_isV (st k) y z
    · obtain ⟨a, v, ha, hv, rfl, rfl⟩ := hw
      have h4 := ok_v4 hS ha
      by_cases hw0 : w < (-500 : Int32)
      · refine J_same h' (r := 10000) ?_ ?_
        · rw [qX3_worth, sW_hasO _ (Or.inl rfl) hS hC ho, bq_I, if_neg bq_ne10, sW_hasV _ (Or.inl rfl) hS hC ha hv, bq_I, if_neg bq_ne10, if_pos hw0]
        · rw [qX4_worth, sM_isO _ hS hR ho, bq_I, if_neg bq_ne10, sM_isV _ hS hR ha hv, bq_I, if_neg bq_ne10, if_pos hw0]
      · by_cases hwt : w ≤ (500 : Int32)
        · have hu1 : -500 ≤ w.toInt := by
            rw [Int32.lt_iff_toInt_lt] at hw0
            have : (-500 : Int32).toInt = -500 := by decide
            omega
          have hu2 : w.toInt ≤ 500 := by
            rw [Int32.le_iff_toInt_le] at hwt
            have : (500 : Int32).toInt = 500 := by decide
            omega
          obtain ⟨ν, e1, e2, e3, e4, e5⟩ := sB_carry (d + 31) h.1 hC (op := (7, nI o, nI a, nI v, w)) (S' := bo_worth o a v w (st k)) (Or.inr (Or.inr (Or.inr (Or.inr (Or.inr (Or.inr (Or.inr ⟨o, a, v, w, rfl, ho, ha, hv, hu1, hu2, rfl⟩))))))) (ok_worth hS ho ha hv hu1 hu2)
          obtain ⟨π, f1, f2, f3, f4⟩ := sM_worth (d + 37) (act_l h.2.2.2.1 e5) (act_r hR e5) ho ha hv hw0 hwt hu1 hu2
          refine ⟨gU (st k) o a v, ν, π, ?_, f1, inv_act h e2 e3 e4 e5 f2 f3 f4⟩
          rw [qX3_worth, sW_hasO _ (Or.inl rfl) hS hC ho, bq_I, if_neg bq_ne10, sW_hasV _ (Or.inl rfl) hS hC ha hv, bq_I, if_neg bq_ne10, if_neg hw0, if_pos hwt, sB_worthSlot, bq_I, if_pos ((bq_ii (by omega)).2 (by omega)), nI_clamp (by omega), show μ.1 11 (48 * o + 4 * a + v) = gU (st k) o a v from ra_u hC.1 ho ha hv, qX3_worth_59]
          rw [show bw_call (d + 39) 74 [.inr (.inr 0), .inl (7 : Int32), .inl (nI o), .inl (nI a), .inl (nI v), .inl w] μ = some (none, ν) from e1, bq_V]
        · refine J_same h' (r := 10000) ?_ ?_
          · rw [qX3_worth, sW_hasO _ (Or.inl rfl) hS hC ho, bq_I, if_neg bq_ne10, sW_hasV _ (Or.inl rfl) hS hC ha hv, bq_I, if_neg bq_ne10, if_neg hw0, if_neg hwt]
          · rw [qX4_worth, sM_isO _ hS hR ho, bq_I, if_neg bq_ne10, sM_isV _ hS hR ha hv, bq_I, if_neg bq_ne10, if_neg hw0, qX4_worth_25, if_neg hwt]
    · refine J_same h' (r := 10000) ?_ ?_
      · rw [qX3_worth, sW_hasO _ (Or.inl rfl) hS hC ho, bq_I, if_neg bq_ne10, sW_hasNV _ (Or.inl rfl) hS hC hw, bq_I, if_pos rfl]
      · rw [qX4_worth, sM_isO _ hS hR ho, bq_I, if_neg bq_ne10, sM_isNV _ hS hR hw, bq_I, if_pos rfl]
  · refine J_same h' (r := 10000) ?_ ?_
    · rw [qX3_worth, sW_hasNO _ (Or.inl rfl) hS hC ho, bq_I, if_pos rfl]
    · rw [qX4_worth, sM_isNO _ hS hR ho, bq_I, if_pos rfl]
theorem J_cut (d : Nat) {μ : bwM} (h : bwInv μ) (x y : Int32) : bwJ d 47 93 [.inl x, .inl y] [.inl x, .inl y] μ := by
  have h' := h
  obtain ⟨st, ac, k, f, m, h⟩ := h
  have hS := inv_ok h
  have hC := h.2.1
  have hR := h.2.2.1
  have hn := ok_n hS
  by_cases hx : bw_isT (st k) x
  · obtain ⟨a, ha, rfl⟩ := hx
    by_cases hy : bw_isT (st k) y
    · obtain ⟨b, hb, rfl⟩ := hy
      by_cases hab : a ∈ gP (st k) b
      · obtain ⟨rk, hrk⟩ := ok_rk hS
        have hS' : bwOK (bo_par b ((gP (st k) b).filter (fun p => p != a)) (st k)) := ok_par hS (Nat.le_trans (List.length_filter_le _ _) (ok_p3 hS hb)) (List.Pairwise.filter _ (ok_pd hS hb)) (fun p hp => ok_pn hS hb (List.mem_filter.1 hp).1) hb ⟨rk, fun x p hx hp => by
          by_cases hxb : x = b
          · rw [hxb, bp_up_eq] at hp
            rw [hxb]
            exact hrk b p hb (List.mem_filter.1 hp).1
          · rw [bp_up_ne _ hxb] at hp
            exact hrk x p hx hp⟩
        obtain ⟨ν, e1, e2, e3, e4, e5⟩ := sB_carry (d + 31) h.1 hC (op := (1, nI a, nI b, 0, 0)) (S' := bo_par b ((gP (st k) b).filter (fun p => p != a)) (st k)) (Or.inr (Or.inl ⟨a, b, rfl, hb, hab, rfl⟩)) hS'
        obtain ⟨π, f1, f2, f3, f4⟩ := sM_cut (d + 38) (act_l h.2.2.2.1 e5) (act_r hR e5) hb hab hS'
        refine ⟨nI ((gP (st k) b).filter (fun p => p != a)).length, ν, π, ?_, f1, inv_act h e2 e3 e4 e5 f2 f3 f4⟩
        obtain ⟨i, hi, hia⟩ := List.getElem_of_mem hab
        have h5 : ν.1 5 b = nI (bp_up (gP (st k)) b ((gP (st k) b).filter (fun p => p != a)) b).length := ra_c e3.1 hb
        rw [bp_up_eq] at h5
        have hpp := sW_pp (d + 37) (w := 2) (Or.inl rfl) hS hC hb hi
        rw [hia] at hpp
        have h3 := ok_p3 hS hb
        rw [qX3_cut, sW_hasT _ (Or.inl rfl) hS hC ha, bq_I, if_neg bq_ne10, sW_hasT _ (Or.inl rfl) hS hC hb, bq_I, if_neg bq_ne10, hpp, bq_I, if_neg (fun hh => by
          have := nI_pos (n := i) (by omega)
          rw [hh] at this
          exact this (by decide))]
        rw [show bw_call (d + 39) 74 [.inr (.inr 0), .inl (1 : Int32), .inl (nI a), .inl (nI b), .inl (0 : Int32), .inl (0 : Int32)] μ = some (none, ν) from e1, bq_V, if_pos ((bq_ii (by omega)).2 (by omega)), nI_clamp (by omega), h5]
      · refine J_same h' (r := -1) ?_ ?_
        · rw [qX3_cut, sW_hasT _ (Or.inl rfl) hS hC ha, bq_I, if_neg bq_ne10, sW_hasT _ (Or.inl rfl) hS hC hb, bq_I, if_neg bq_ne10, sW_pp_no _ (Or.inl rfl) hS hC hb ha hab, bq_I, if_pos rfl]
        · rw [qX4_cut, sM_isT _ hS hR ha, bq_I, if_neg bq_ne10, sM_isT _ hS hR hb, bq_I, if_neg bq_ne10, sM_npar _ hS hR hb ha hab, bq_I, if_pos rfl]
    · refine J_same h' (r := -1) ?_ ?_
      · rw [qX3_cut, sW_hasT _ (Or.inl rfl) hS hC ha, bq_I, if_neg bq_ne10, sW_hasNT _ (Or.inl rfl) hS hC hy, bq_I, if_pos rfl]
      · rw [qX4_cut, sM_isT _ hS hR ha, bq_I, if_neg bq_ne10, sM_isNT _ hS hR hy, bq_I, if_pos rfl]
  · refine J_same h' (r := -1) ?_ ?_
    · rw [qX3_cut, sW_hasNT _ (Or.inl rfl) hS hC hx, bq_I, if_pos rfl]
    · rw [qX4_cut, sM_isNT _ hS hR hx, bq_I, if_pos rfl]
theorem J_undo (d : Nat) {μ : bwM} (h : bwInv μ) : bwJ d 72 140 [] [] μ := by
  have h' := h
  obtain ⟨st, ac, k, f, m, h⟩ := h
  have h22 : μ.1 22 3 = nI k := h.1.2.2.2.1
  have h25 : μ.1 30 25 = nI k := h.2.2.2.1.2.1
  have hk100 : k ≤ 100 := h.1.1
  cases k with
  | zero =>
    refine J_same h' (r := -1) ?_ ?_
    · rw [qX3_undo, h22, if_pos (by decide)]
    · rw [qX4_undo, h25, if_pos (by decide)]
  | succ k =>
    obtain ⟨ν, e1, e2, e3, e4, e5⟩ := sH_back (d + 32) h.1
    obtain ⟨π, f1, f2, f3, f4⟩ := sM_undo (d + 39) (act_l h.2.2.2.1 e5) (act_r h.2.2.1 e5)
    obtain ⟨_, _, _, _, k5, k6, k7, k8, k9⟩ := h
    refine ⟨nI k, ν, π, ?_, f1, st, ac, k, f, m, fr_h e2 (fun c _ h => f4.2.2 c (by omega)), fr_c e3 (fun i hi => f4.2.2 _ (by omega)), f2, f3, ?_, k6, ?_, ?_, fun x hx => ?_⟩
    · rw [qX3_undo, h22, if_neg (nI_ne0 (by omega) (by omega))]
      rw [show bw_call (d + 39) 2 [.inr (.inr 22), .inr (.inr 2)] μ = some (none, ν) from e1, bq_V, e2.2.2.2.1]
    · rw [f4.1, e4]; exact k5
    · rw [f4.2.2 0 (by omega), e5 0 (by omega)]; exact k7
    · rw [f4.2.1, e5 30 (by omega)]; exact k8
    · rw [f4.2.2 1 (by omega), e5 1 (by omega), f4.2.2 42 (by omega), e5 42 (by omega)]; exact k9 x hx
theorem J_thing (d : Nat) {μ : bwM} (h : bwInv μ) (x y : Int32) : bwJ d 45 88 [.inl x, .inl y] [.inl x, .inl y] μ := by
  have h' := h
  obtain ⟨st, ac, k, f, m, h⟩ := h
  have hS := inv_ok h
  have hC := h.2.1
  have hR := h.2.2.1
  by_cases ha : bw_thA x y
  · obtain ⟨n, t, a1, a2, a3, a4, rfl, rfl⟩ := ha
    by_cases hb : bw_thB (st k) n t
    · obtain ⟨ν, e1, e2, e3, e4, e5⟩ := sB_thing (d + 35) hS hC a1 a2 a3 a4 hb ac
      obtain ⟨π, f1, f2, f3, f4, f5, f6⟩ := sM_thing (d + 38) hS (act_r hR e5) a1 a2 a3 a4 hb
      obtain ⟨_, _, _, _, k5, k6, k7, k8, k9⟩ := h
      have hS' := ok_thing hS a1 a2 a3 a4 hb.1 hb.2.1 hb.2.2
      refine ⟨nI (gN (st k)), ν, π, e1, f1, fun _ => bo_thing n t (st k), ac, 0, 0, m, fr_h e2 (fun c _ h => f6 c (by omega)), fr_c e3 (fun i hi => f6 _ (by omega)), f2, ⟨by omega, f3, fun _ _ => hS', fun i hi => by omega⟩, ?_, k6, ?_, ?_, fun x hx => ?_⟩
      · rw [f4, e4]; exact k5
      · rw [f6 0 (by omega), e5 0 (by omega)]; exact k7
      · rw [f5 18 (by omega) (by omega), e5 30 (by omega)]; exact k8
      · rw [f6 1 (by omega), e5 1 (by omega), f6 42 (by omega), e5 42 (by omega)]; exact k9 x hx
    · refine J_same h' (r := -3) ?_ ?_
      · exact (sB_thing_at (d + 38) hS hC a1 a2 a3 a4).2 hb
      · exact (sM_thing_at (d + 39) hS hR a1 a2 a3 a4).2 hb
  · exact J_same h' (r := -1) (sB_thing_bad (d + 39) ha μ) (sM_thing_bad (d + 39) ha μ)
