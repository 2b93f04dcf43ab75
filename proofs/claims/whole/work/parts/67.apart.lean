/-! PURE: apart, joined. -/
theorem op_last {S : bwS} {x : Nat} (l : List Nat) (h : g_op S x l) : ∃ p, l = p ++ [x] := by
  induction l with
  | nil => exact absurd h (by intro hh; exact hh)
  | cons b t ih =>
    cases t with
    | nil =>
      have : b = x := h
      exact ⟨[], by rw [this]; rfl⟩
    | cons a s =>
      obtain ⟨p, hp⟩ := ih h.2.2
      exact ⟨b :: p, by rw [hp]; rfl⟩
theorem F_road {S : bwS} {x y : Nat} (hxy : x ≠ y) : g_F S x y [x] 0 ↔ g_road S x y := by
  constructor
  · rintro ⟨pre, v, _, h2, h3, h4⟩
    cases pre with
    | nil =>
      have hv : v = y := by simpa using h4
      subst hv
      exact ⟨[x], h2, h3⟩
    | cons q s =>
      have hq : q = y := by simpa using h4
      subst hq
      exact ⟨s ++ v :: [x], h2, h3⟩
  · rintro ⟨s, h1, h2⟩
    obtain ⟨p, hp⟩ := op_last _ h1
    cases hr : p.reverse with
    | nil =>
      have hp0 : p = [] := by simpa using hr
      subst hp0
      have := (List.cons.inj hp).1
      exact absurd this.symm hxy
    | cons v r =>
      have hpp : p = r.reverse ++ [v] := by
        have := congrArg List.reverse hr
        simpa using this
      subst hpp
      have hls : r.reverse ++ v :: [x] = y :: s := by rw [hp]; simp
      refine ⟨r.reverse, v, Nat.zero_le _, by rw [hls]; exact h1, by rw [hls]; exact h2, ?_⟩
      have : (r.reverse ++ [v] ++ [x]).head? = some y := by rw [← hp]; rfl
      cases hrr : r.reverse with
      | nil => rw [hrr] at this; simpa using this
      | cons q t => rw [hrr] at this; simpa using this
theorem sM_ap_init (d : Nat) {S : bwS} (hS : bwOK S) {a : Nat} (ha : a < gN S) (x2 : Int32) (k : Nat) (hk : k ≤ gN S) (μ : bwM) (hR : bwR' S μ) (hb : ∀ x, x < k → μ.1 47 x = if ([a] : List Nat).contains x = true then 1 else 0) : ∃ ν, eX4_apart d 27 [some (.inr (.inr 30)), some (.inl (nI a)), some (.inl x2), some (.inl (nI k)), none, none] [] μ = eX4_apart d 73 [some (.inr (.inr 30)), some (.inl (nI a)), some (.inl x2), some (.inl 0), none, none] [] ν ∧ bw_onm S ν [a] ∧ bw_fD μ ν ∧ ν.1 45 0 = nI a ∧ ν.1 46 0 = -1 := by
  have hn := ok_n hS
  induction hj : gN S - k generalizing k μ with
  | zero =>
    have : k = gN S := by omega
    subst this
    refine ⟨bw_si (bw_si μ 45 0 (nI a)) 46 0 (-1), ?_, fun v hv => ?_, fD_trans (fD_si μ 45 0 (nI a) (by omega)) (fD_si _ 46 0 (-1) (by omega)), by rw [bq_sin _ _ (by omega), bq_sie], bq_sie _ _ _ _⟩
    · rw [qX4_apart_27, rr_n hR, if_pos (nI_le (by omega) (by omega)), if_pos (by decide), if_pos (by decide)]
      rfl
    · rw [bq_sin _ _ (by omega), bq_sin _ _ (by omega)]; exact hb v hv
  | succ j ih =>
    rw [qX4_apart_27, rr_n hR, if_neg (nI_ge (by omega) (by omega))]
    have key : ∀ z : Int32, z = (if ([a] : List Nat).contains k = true then 1 else 0) → vp_nar .boolean z = z → ∃ ν, eX4_apart d 50 [some (.inr (.inr 30)), some (.inl (nI a)), some (.inl x2), some (.inl (nI k)), none, none] [.inl z, .inl (nI k), .inr (.inr 47)] μ = eX4_apart d 73 [some (.inr (.inr 30)), some (.inl (nI a)), some (.inl x2), some (.inl 0), none, none] [] ν ∧ bw_onm S ν [a] ∧ bw_fD μ ν ∧ ν.1 45 0 = nI a ∧ ν.1 46 0 = -1 := by
      intro z hz hvn
      have hf := fD_si μ 47 k z (by omega)
      obtain ⟨ν, e1, e2, e3, e4, e5⟩ := ih (k + 1) (by omega) (bw_si μ 47 k z) (fD_r hf hR) (fun x hx => by
        by_cases hxk : x = k
        · rw [hxk, bq_sie]; exact hz
        · rw [bq_sin _ _ (by omega)]; exact hb x (by omega)) (by omega)
      refine ⟨ν, ?_, e2, fD_trans hf e3, e4, e5⟩
      rw [qX4_apart_50, if_pos ((bq_ii (by omega)).2 (by omega)), nI_clamp (by omega), hvn, nI_1]
      exact e1
    by_cases hka : k = a
    · rw [if_pos (by rw [hka])]
      exact key 1 (by rw [if_pos (by simpa using hka)]) bq_vn1
    · rw [if_neg (fun hh => hka ((nI_eq (by omega) (by omega)).1 hh))]
      exact key 0 (by rw [if_neg (by simpa using hka)]) bq_vn0
theorem mq_D {μ ν : bwM} (h : bw_fD μ ν) : bw_mq μ ν none := ⟨fun c h1 h2 => h.1 c (by omega) (by omega) (by omega) (by omega), fun j _ => by rw [h.1 30 (by omega) (by omega) (by omega) (by omega)], fun c _ _ => by rw [h.2], by rw [h.2]; exact ⟨rfl, rfl⟩⟩
theorem J_apart (d : Nat) {μ : bwM} (h : bwInv μ) (x y : Int32) : bwJ d 65 127 [.inl x, .inl y] [.inl x, .inl y] μ := by
  have h' := h
  obtain ⟨st, ac, k, f, m, h⟩ := h
  have hS := inv_ok h
  have hC := h.2.1
  have hR := h.2.2.1
  have hn := ok_n hS
  by_cases hx : bw_isT (st k) x
  · obtain ⟨a, ha, rfl⟩ := hx
    by_cases hy : bw_isT (st k) y
    · obtain ⟨b, hb, rfl⟩ := hy
      by_cases hab : a = b
      · refine J_same h' (r := 0) ?_ ?_
        · rw [qX3_apart, sW_hasT _ (Or.inl rfl) hS hC ha, bq_I, if_neg bq_ne10, sW_hasT _ (Or.inl rfl) hS hC hb, bq_I, if_neg bq_ne10, if_pos (by rw [hab])]
        · rw [qX4_apart, sM_isT _ hS hR ha, bq_I, if_neg bq_ne10, sM_isT _ hS hR hb, bq_I, if_neg bq_ne10, if_pos (by rw [hab])]
      · have hne : ¬ nI a = nI b := fun hh => hab ((nI_eq (by omega) (by omega)).1 hh)
        have hroad := sW_road (d + 34) hS hC ha hb hab
        obtain ⟨ν, e1, e2, e3, e4, e5⟩ := sM_ap_init (d + 39) hS ha (nI b) 0 (by omega) μ hR (fun x hx => by omega)
        obtain ⟨π, p4, p5, g1, g2, g3⟩ := sM_dfs (d + 36) hS (x := a) hb (nI a) _ a [] 0 rfl (by omega) (fun z hz => by rw [List.mem_singleton.1 hz]; exact ha) (show g_op (st k) a [a] from rfl) (by simp) none none ν (fD_r e3 hR) ⟨e4, trivial⟩ e2 (by rw [show ([] : List Nat).length = 0 from rfl, e5]; rfl)
        have hm : bw_call (d + 40) 127 [.inr (.inr 30), .inl (nI a), .inl (nI b)] μ = eX4_apart (d + 39) 73 [some (.inr (.inr 30)), some (.inl (nI a)), some (.inl (nI b)), some (.inl 0), none, none] [] ν := by
          rw [qX4_apart, sM_isT _ hS hR ha, bq_I, if_neg bq_ne10, sM_isT _ hS hR hb, bq_I, if_neg bq_ne10, if_neg hne]
          exact e1
        by_cases hr : g_road (st k) a b
        · refine J_q h (r := 0) (t := none) ?_ (cq_refl μ) (hm.trans (g2 ((F_road hab).2 hr))) (mq_D (fD_trans e3 g1))
          rw [qX3_apart, sW_hasT _ (Or.inl rfl) hS hC ha, bq_I, if_neg bq_ne10, sW_hasT _ (Or.inl rfl) hS hC hb, bq_I, if_neg bq_ne10, if_neg hne, hroad.1 hr, bq_I, if_neg bq_ne10]
        · obtain ⟨k1, _, _⟩ := g3 (fun hf => hr ((F_road hab).1 hf))
          refine J_q h (r := 1) (t := none) ?_ (cq_refl μ) ?_ (mq_D (fD_trans e3 g1))
          · rw [qX3_apart, sW_hasT _ (Or.inl rfl) hS hC ha, bq_I, if_neg bq_ne10, sW_hasT _ (Or.inl rfl) hS hC hb, bq_I, if_neg bq_ne10, if_neg hne, hroad.2 hr, bq_I, if_pos rfl]
          · refine hm.trans (Eq.trans k1 ?_)
            rw [qX4_apart_73, if_pos (by decide)]
    · refine J_same h' (r := -1) ?_ ?_
      · rw [qX3_apart, sW_hasT _ (Or.inl rfl) hS hC ha, bq_I, if_neg bq_ne10, sW_hasNT _ (Or.inl rfl) hS hC hy, bq_I, if_pos rfl]
      · rw [qX4_apart, sM_isT _ hS hR ha, bq_I, if_neg bq_ne10, sM_isNT _ hS hR hy, bq_I, if_pos rfl]
  · refine J_same h' (r := -1) ?_ ?_
    · rw [qX3_apart, sW_hasNT _ (Or.inl rfl) hS hC hx, bq_I, if_pos rfl]
    · rw [qX4_apart, sM_isNT _ hS hR hx, bq_I, if_pos rfl]
