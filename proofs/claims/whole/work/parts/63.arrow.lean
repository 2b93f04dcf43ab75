/-! PURE: arrow, joined. -/
theorem mq_40 {μ ν : bwM} (h : bw_f40 μ ν) : bw_mq μ ν none := ⟨fun c h1 h2 => h.1 c (by omega), fun j _ => by rw [h.1 30 (by omega)], fun c _ _ => by rw [h.2], by rw [h.2]; exact ⟨rfl, rfl⟩⟩
theorem fM_40 {μ ν π : bwM} (h : bw_f40 μ ν) (h' : bw_fM ν π) : bw_fM μ π := ⟨h'.1.trans h.2, h'.2.1.trans (by rw [h.1 30 (by omega)]), fun c hc => (h'.2.2 c hc).trans (h.1 c (by omega))⟩
theorem ok_arrow {S : bwS} (hS : bwOK S) {a b : Nat} (ha : a < gN S) (hb : b < gN S) (hl : (gP S b).length < 3) (hab : a ∉ gP S b) (hr : ¬ g_rc S false b a) : bwOK (bo_par b (gP S b ++ [a]) S) := by
  obtain ⟨rk, hrk⟩ := ok_rk hS
  refine ok_par hS (by rw [List.length_append]; simp; omega) (List.nodup_append.2 ⟨ok_pd hS hb, by simp, fun x hx y hy => by
    rw [List.mem_singleton] at hy
    intro hxy
    rw [hxy, hy] at hx
    exact hab hx⟩) (fun p hp => by
    rcases List.mem_append.1 hp with h | h
    · exact ok_pn hS hb h
    · rw [List.mem_singleton.1 h]; exact ha) hb ⟨fun x => rk x + @ite Nat (g_rc S false b x) (Classical.propDecidable _) (rk a + 1) 0, fun x p hx hp => ?_⟩
  have hold : p ∈ gP S x → rk p + @ite Nat (g_rc S false b p) (Classical.propDecidable _) (rk a + 1) 0 < rk x + @ite Nat (g_rc S false b x) (Classical.propDecidable _) (rk a + 1) 0 := fun hp' => by
    have h1 := hrk x p hx hp'
    by_cases hpp : g_rc S false b p
    · have hxx : g_rc S false b x := rc_step hpp hx (fun h => by cases h) hp'
      rw [if_pos hpp, if_pos hxx]
      omega
    · rw [if_neg hpp]
      omega
  by_cases hxb : x = b
  · subst hxb
    rw [bp_up_eq] at hp
    rcases List.mem_append.1 hp with h | h
    · exact hold h
    · rw [List.mem_singleton.1 h]
      show rk a + @ite Nat (g_rc S false x a) (Classical.propDecidable _) (rk a + 1) 0 < rk x + @ite Nat (g_rc S false x x) (Classical.propDecidable _) (rk a + 1) 0
      rw [if_neg hr, if_pos (rc_refl S false x)]
      omega
  · rw [bp_up_ne _ hxb] at hp
    exact hold hp
theorem J_arrow (d : Nat) {μ : bwM} (h : bwInv μ) (x y : Int32) : bwJ d 46 92 [.inl x, .inl y] [.inl x, .inl y] μ := by
  have h' := h
  obtain ⟨st, ac, k, f, m, h⟩ := h
  have hS := inv_ok h
  have hC := h.2.1
  have hR := h.2.2.1
  have hn := ok_n hS
  by_cases hx : bw_isT (st k) x
  · obtain ⟨a, ha, rfl⟩ := hx
    by_cases hy : bw_isT (st k) y
    · obtain ⟨b, hb, rfl⟩ := hy
      by_cases hab : a = b
      · refine J_same h' (r := -1) ?_ ?_
        · rw [qX3_arrow, sW_hasT _ (Or.inl rfl) hS hC ha, bq_I, if_neg bq_ne10, sW_hasT _ (Or.inl rfl) hS hC hb, bq_I, if_neg bq_ne10, if_pos (by rw [hab])]
        · rw [qX4_arrow, sM_isT _ hS hR ha, bq_I, if_neg bq_ne10, sM_isT _ hS hR hb, bq_I, if_neg bq_ne10, if_pos (by rw [hab])]
      · have hne : ¬ nI a = nI b := fun hh => hab ((nI_eq (by omega) (by omega)).1 hh)
        by_cases hpar : a ∈ gP (st k) b
        · obtain ⟨i, hi, hia⟩ := List.getElem_of_mem hpar
          have hpp := sW_pp (d + 37) (w := 2) (Or.inl rfl) hS hC hb hi
          rw [hia] at hpp
          have h3 := ok_p3 hS hb
          refine J_same h' (r := -1) ?_ ?_
          · rw [qX3_arrow, sW_hasT _ (Or.inl rfl) hS hC ha, bq_I, if_neg bq_ne10, sW_hasT _ (Or.inl rfl) hS hC hb, bq_I, if_neg bq_ne10, if_neg hne, hpp, bq_I, if_neg (fun hh => by
              have := nI_pos (n := i) (by omega)
              rw [hh] at this
              exact this (by decide))]
          · rw [qX4_arrow, sM_isT _ hS hR ha, bq_I, if_neg bq_ne10, sM_isT _ hS hR hb, bq_I, if_neg bq_ne10, if_neg hne, sM_par _ hS hR hb ha hpar, bq_I, if_neg bq_ne10]
        · obtain ⟨q, q1, q2, q3⟩ := sW_anc (d + 36) hS hC ha
          have hcl : bw_call (d + 40) 46 [.inr (.inr 0), .inl (nI a), .inl (nI b)] μ = if (if q.testBit b = true then (1 : Int32) else 0) = 0 then if nI (gP (st k) b).length < (3 : Int32) then eX3_arrow (d + 39) 76 [some (.inr (.inr 0)), some (.inl (nI a)), some (.inl (nI b))] [] μ else some (some (.inl (-3 : Int32)), μ) else some (some (.inl (-2 : Int32)), μ) := by
            rw [qX3_arrow, sW_hasT _ (Or.inl rfl) hS hC ha, bq_I, if_neg bq_ne10, sW_hasT _ (Or.inl rfl) hS hC hb, bq_I, if_neg bq_ne10, if_neg hne, sW_pp_no _ (Or.inl rfl) hS hC hb ha hpar, bq_I, if_pos rfl, q2, bq_I, sB_isIn _ q1 (by omega), bq_I, if_pos ((bq_ii (by omega)).2 (by omega)), nI_clamp (by omega), show μ.1 5 b = nI (gP (st k) b).length from ra_c hC.1 hb]
          have hmod : ∀ ν : bwM, bwR' (st k) ν → ∃ (τ : bwM) (rb : Nat → Bool), bw_f40 ν τ ∧ (∀ y, y < gN (st k) → (rb y = true ↔ g_rc (st k) false b y)) ∧ bw_call (d + 40) 92 [.inr (.inr 30), .inl (nI a), .inl (nI b)] ν = if (if rb a = true then (1 : Int32) else 0) = 0 then if nI (gP (st k) b).length = (3 : Int32) then some (some (.inl (-3 : Int32)), τ) else eX4_arrow (d + 39) 63 [some (.inr (.inr 30)), some (.inl (nI a)), some (.inl (nI b))] [] τ else some (some (.inl (-2 : Int32)), τ) := fun ν hRν => by
            obtain ⟨τ, rb, e1, e2, e3, e4⟩ := sM_reach (d + 38) hS false hb hRν
            refine ⟨τ, rb, e3, e4, ?_⟩
            rw [qX4_arrow, sM_isT _ hS hRν ha, bq_I, if_neg bq_ne10, sM_isT _ hS hRν hb, bq_I, if_neg bq_ne10, if_neg hne, sM_npar _ hS hRν hb ha hpar, bq_I, if_pos rfl]
            rw [show bw_call (d + 39) 91 [.inr (.inr 30), .inl (nI b), .inl (0 : Int32)] ν = some (none, τ) from e1, bq_V, if_pos ((bq_ii (by omega)).2 (by omega)), if_pos ((bq_ii (by omega)).2 (by omega)), nI_clamp (n := a) (by omega), nI_clamp (n := b) (by omega), e2 a ha, rm_c (f40_r e3 hRν) hb]
          have h3 := ok_p3 hS hb
          by_cases hring : g_rc (st k) false b a
          · have hqb : q.testBit b = true := (q3 b).2 ((an_rc (st k) a b).2 hring)
            obtain ⟨τ, rb, g1, g2, g3⟩ := hmod μ hR
            refine J_q h (r := -2) (t := none) ?_ (cq_refl μ) ?_ (mq_40 g1)
            · rw [hcl, hqb, if_neg (by decide)]
            · rw [g3, (g2 a ha).2 hring, if_neg (by decide)]
          · have hqb : ¬ q.testBit b = true := fun hh => hring ((an_rc (st k) a b).1 ((q3 b).1 hh))
            rw [if_pos (by rw [if_neg hqb])] at hcl
            by_cases hfull : (gP (st k) b).length < 3
            · have hS' := ok_arrow hS ha hb hfull hpar hring
              rw [if_pos (show nI _ < (3 : Int32) from nI_lt (b := 3) hfull (by omega)), qX3_arrow_76] at hcl
              obtain ⟨ν, e1, e2, e3, e4, e5⟩ := sB_carry (d + 31) h.1 hC (op := (0, nI a, nI b, 0, 0)) (S' := bo_par b (gP (st k) b ++ [a]) (st k)) (Or.inl ⟨a, b, rfl, ha, hb, hfull, hpar, rfl⟩) hS'
              have hRν := act_r hR e5
              obtain ⟨τ, rb, g1, g2, g3⟩ := hmod ν hRν
              have hrb : ¬ rb a = true := fun hh => hring ((g2 a ha).1 hh)
              obtain ⟨π, f1, f2, f3, f4⟩ := sM_arrow63 (d + 38) (fr_l (act_l h.2.2.2.1 e5) (by rw [g1.1 30 (by omega)]) (fun c h1 h2 => g1.1 c (by omega))) (f40_r g1 hRν) hb hfull hS'
              have h5 : ν.1 5 b = nI (bp_up (gP (st k)) b (gP (st k) b ++ [a]) b).length := ra_c e3.1 hb
              rw [bp_up_eq, List.length_append] at h5
              refine ⟨nI ((gP (st k) b).length + 1), ν, π, ?_, ?_, inv_act h e2 e3 e4 e5 f2 f3 (fM_40 g1 f4)⟩
              · refine hcl.trans ?_
                rw [show bw_call (d + 39) 74 [.inr (.inr 0), .inl (0 : Int32), .inl (nI a), .inl (nI b), .inl (0 : Int32), .inl (0 : Int32)] μ = some (none, ν) from e1, bq_V, if_pos ((bq_ii (by omega)).2 (by omega)), nI_clamp (by omega), h5]
                rfl
              · rw [g3, if_pos (by rw [if_neg hrb]), if_neg (fun hh => by
                  have := (nI_eq (b := 3) (by omega) (by omega)).1 hh
                  omega)]
                exact f1
            · obtain ⟨τ, rb, g1, g2, g3⟩ := hmod μ hR
              have hrb : ¬ rb a = true := fun hh => hring ((g2 a ha).1 hh)
              rw [if_neg (show ¬ nI _ < (3 : Int32) from nI_nlt (b := 3) (by omega) (by omega))] at hcl
              refine J_q h (r := -3) (t := none) hcl (cq_refl μ) ?_ (mq_40 g1)
              rw [g3, if_pos (by rw [if_neg hrb]), if_pos (by rw [show (gP (st k) b).length = 3 by omega]; rfl)]
    · refine J_same h' (r := -1) ?_ ?_
      · rw [qX3_arrow, sW_hasT _ (Or.inl rfl) hS hC ha, bq_I, if_neg bq_ne10, sW_hasNT _ (Or.inl rfl) hS hC hy, bq_I, if_pos rfl]
      · rw [qX4_arrow, sM_isT _ hS hR ha, bq_I, if_neg bq_ne10, sM_isNT _ hS hR hy, bq_I, if_pos rfl]
  · refine J_same h' (r := -1) ?_ ?_
    · rw [qX3_arrow, sW_hasNT _ (Or.inl rfl) hS hC hx, bq_I, if_pos rfl]
    · rw [qX4_arrow, sM_isNT _ hS hR hx, bq_I, if_pos rfl]
