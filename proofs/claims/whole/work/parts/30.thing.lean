/-! PURE: a new thing, in the class and in the reference. -/
theorem bp_prod_mono {f : Nat → Nat} {n : Nat} (h : ∀ x, x < n → 1 ≤ f x) (k : Nat) (hk : k ≤ n) : bp_prod f k ≤ bp_prod f n := by
  induction hj : n - k generalizing k with
  | zero =>
    have : k = n := by omega
    rw [this]; exact Nat.le_refl _
  | succ j ih =>
    refine Nat.le_trans ?_ (ih (k + 1) (by omega) (by omega))
    show bp_prod f k ≤ bp_prod f k * f k
    exact Nat.le_mul_of_pos_right _ (h k (by omega))
theorem sW_wholes_go (d : Nat) {w : Nat} (hw : w = 2 ∨ w = 12) {S : bwS} {μ : bwM} (hS : bwOK S) (hR : bwC w S μ) (k : Nat) (hk : k ≤ gN S) : eX2_allWholes d 4 [some (.inr (.inr w)), some (.inl (nI (bp_prod (gV S) k))), some (.inl (nI k))] [] μ = some (some (.inl (nI (bp_prod (gV S) (gN S)))), μ) := by
  have hn := ok_n hS
  induction hj : gN S - k generalizing k with
  | zero =>
    have : k = gN S := by omega
    subst this
    rw [qX2_allWholes_4 _ hw, rc_n hR, if_pos (nI_le (by omega) (by omega))]
  | succ j ih =>
    rw [qX2_allWholes_4 _ hw, rc_n hR, if_neg (nI_ge (by omega) (by omega)), if_pos ((bq_ii (by omega)).2 (by omega)), nI_clamp (by omega), ra_v hR.1 (by omega), pk_mul, nI_1]
    exact ih (k + 1) (by omega) (by omega)
theorem sW_wholes (d : Nat) {w : Nat} (hw : w = 2 ∨ w = 12) {S : bwS} {μ : bwM} (hS : bwOK S) (hR : bwC w S μ) : bw_call (d + 1) 23 [.inr (.inr w)] μ = some (some (.inl (nI (bp_prod (gV S) (gN S)))), μ) := by
  rw [qX2_allWholes _ hw]
  exact sW_wholes_go d hw hS hR 0 (by omega)
theorem sW_totals_go (d : Nat) {w : Nat} (hw : w = 2 ∨ w = 12) {S : bwS} {μ : bwM} (hS : bwOK S) (hR : bwC w S μ) (k : Nat) (hk : k ≤ gN S) : eX2_allTotals d 4 [some (.inr (.inr w)), some (.inr (.inl (lN (bp_prod (gT S) k)))), none, some (.inl (nI k))] [] μ = some (some (.inr (.inl (lN (bp_prod (gT S) (gN S))))), μ) := by
  have hn := ok_n hS
  induction hj : gN S - k generalizing k with
  | zero =>
    have : k = gN S := by omega
    subst this
    rw [qX2_allTotals_4 _ hw, rc_n hR, if_pos (nI_le (by omega) (by omega))]
  | succ j ih =>
    have ht := ok_t100 hS (x := k) (by omega)
    rw [qX2_allTotals_4 _ hw, rc_n hR, if_neg (nI_ge (by omega) (by omega)), if_pos ((bq_ii (by omega)).2 (by omega)), nI_clamp (by omega), ra_t hR.1 (by omega), nI_l (by omega), lN_mul, nI_1]
    exact ih (k + 1) (by omega) (by omega)
theorem sW_totals (d : Nat) {w : Nat} (hw : w = 2 ∨ w = 12) {S : bwS} {μ : bwM} (hS : bwOK S) (hR : bwC w S μ) : bw_call (d + 1) 24 [.inr (.inr w)] μ = some (some (.inr (.inl (lN (bp_prod (gT S) (gN S))))), μ) := by
  rw [qX2_allTotals _ hw]
  exact sW_totals_go d hw hS hR 0 (by omega)
theorem sW_addForces (d : Nat) {w : Nat} (hw : w = 2 ∨ w = 12) {n x : Nat} (hn : n ≤ 4) (hx : x < 12) (x2 : Int32) (k : Nat) (hk : k ≤ n) (μ : bwM) : ∃ ν : bwM, eX2_addThing (d + 1) 46 [some (.inr (.inr w)), some (.inl (nI n)), some (.inl x2), some (.inl (nI x)), some (.inl (nI k))] [] μ = bw_bV (bw_call (d + 1) 41 [.inr (.inr w), .inl (nI x)] ν) none (fun m1 => some (none, m1)) ∧ ν.2 = μ.2 ∧ (∀ c j, ¬ (c = w + 8 ∧ 4 * x + k ≤ j ∧ j < 4 * x + n) → ν.1 c j = μ.1 c j) ∧ (∀ v, k ≤ v → v < n → ν.1 (w + 8) (4 * x + v) = nI 1) := by
  induction hj : n - k generalizing k μ with
  | zero =>
    have : k = n := by omega
    subst this
    refine ⟨μ, ?_, rfl, fun _ _ _ => rfl, fun i h h' => by omega⟩
    rw [qX2_addThing_46 _ hw, if_pos (nI_le (by omega) (by omega))]
  | succ j ih =>
    obtain ⟨ν, e1, e2, e3, e4⟩ := ih (k + 1) (by omega) (bw_si μ (w + 8) (4 * x + k) 1) (by omega)
    refine ⟨ν, ?_, e2, fun c j hcj => ?_, fun i hi hi' => ?_⟩
    · rw [qX2_addThing_46 _ hw, if_neg (nI_ge (by omega) (by omega)), sB_slot, bq_I, if_pos ((bq_ii (by omega)).2 (by omega)), nI_clamp (by omega), nI_1]
      exact e1
    · rw [e3 c j (by omega), bq_sin _ _ (by omega)]
    · by_cases hik : i = k
      · subst hik
        rw [e3 _ _ (by omega), bq_sie]; rfl
      · exact e4 i (by omega) hi'
theorem sW_addThing (d : Nat) {S : bwS} {n t : Nat} (hS : bwOK S) (hn : 2 ≤ n) (hn4 : n ≤ 4) (h12 : gN S < 12) {μ : bwM} (hR : bwC 2 S μ) : ∃ ν, bw_call (d + 4) 37 [.inr (.inr 2), .inl (nI n), .inl (nI t)] μ = some (none, ν) ∧ bwC 2 (bo_thing n t S) ν ∧ ν.2 = μ.2 ∧ (∀ c, c < 2 ∨ 11 < c → ν.1 c = μ.1 c) := by
  have hw : (2 : Nat) = 2 ∨ (2 : Nat) = 12 := Or.inl rfl
  obtain ⟨π, f1, f2, f3, f4⟩ := sW_addForces (d + 2) hw hn4 h12 (nI t) 0 (by omega) (bw_si (bw_si (bw_si (bw_si (bw_si μ 2 0 (nI (gN S + 1))) (2 + 1) (gN S) (nI n)) (2 + 2) (gN S) (nI t)) (2 + 6) (gN S) (-1)) (2 + 7) (gN S) (-1))
  have p0 : π.1 2 0 = nI (gN S + 1) := by rw [f3 _ _ (by omega), bq_sin _ _ (by omega), bq_sin _ _ (by omega), bq_sin _ _ (by omega), bq_sin _ _ (by omega), bq_sie]
  have p1 : π.1 (2 + 1) (gN S) = nI n := by rw [f3 _ _ (by omega), bq_sin _ _ (by omega), bq_sin _ _ (by omega), bq_sin _ _ (by omega), bq_sie]
  have p2 : π.1 (2 + 2) (gN S) = nI t := by rw [f3 _ _ (by omega), bq_sin _ _ (by omega), bq_sin _ _ (by omega), bq_sie]
  have p6 : π.1 (2 + 6) (gN S) = -1 := by rw [f3 _ _ (by omega), bq_sin _ _ (by omega), bq_sie]
  have p7 : π.1 (2 + 7) (gN S) = -1 := by rw [f3 _ _ (by omega), bq_sie]
  have pr : ∀ c j, ¬ (c = 2 ∧ j = 0) → ¬ (c = 3 ∧ j = gN S) → ¬ (c = 4 ∧ j = gN S) → ¬ (c = 8 ∧ j = gN S) → ¬ (c = 9 ∧ j = gN S) → ¬ (c = 10 ∧ 4 * gN S ≤ j ∧ j < 4 * gN S + n) → π.1 c j = μ.1 c j := by
    intro c j h1 h2 h3 h4 h5 h6
    rw [f3 _ _ (by omega), bq_sin _ _ (by omega), bq_sin _ _ (by omega), bq_sin _ _ (by omega), bq_sin _ _ (by omega), bq_sin _ _ (by omega)]
  have p3 : π.1 (2 + 3) (gN S) = nI 0 := by
    rw [pr _ _ (by omega) (by omega) (by omega) (by omega) (by omega) (by omega)]
    exact hR.2.2.2.1 (gN S) (by omega) h12
  obtain ⟨ν, e1, e2, e3, e4⟩ := sW_reset_go (d + 1) hw (R := 1) h12 hn4 (by omega) 0 (by omega) none π p1 p2
  have hlt : ∀ {x}, x < gN (bo_thing n t S) → x < gN S ∨ x = gN S := fun {x} hx => by
    have : x < gN S + 1 := hx
    omega
  have hV : ∀ x, x < gN S → gV (bo_thing n t S) x = gV S x := fun x hx => bp_up_ne _ (by omega) _
  have nr : ∀ c j, ¬ (c = 2 ∧ j = 0) → ¬ (c = 3 ∧ j = gN S) → ¬ (c = 4 ∧ j = gN S) → ¬ (c = 8 ∧ j = gN S) → ¬ (c = 9 ∧ j = gN S) → ¬ (c = 10 ∧ 4 * gN S ≤ j ∧ j < 4 * gN S + 4) → ¬ (c = 7 ∧ 256 * gN S ≤ j ∧ j < 256 * gN S + 4) → ν.1 c j = μ.1 c j := by
    intro c j h1 h2 h3 h4 h5 h6 h7
    rw [e3 _ _ (by omega), pr _ _ h1 h2 h3 h4 h5 (by omega)]
  have hrows : ∀ x, x < gN S → g_rows (bo_thing n t S) x = g_rows S x := by
    intro x hx
    unfold g_rows
    have : ∀ (l : List Nat), (∀ p, p ∈ l → p < gN S) → ∀ r, l.foldl (fun r p => r * gV (bo_thing n t S) p) r = l.foldl (fun r p => r * gV S p) r := by
      intro l
      induction l with
      | nil => intro _ r; rfl
      | cons p l ih =>
        intro hl r
        rw [List.foldl_cons, List.foldl_cons, hV p (hl p (by simp))]
        exact ih (fun q hq => hl q (by simp [hq])) _
    exact this _ (fun p hp => ok_pn hS hx hp) 1
  refine ⟨ν, ?_, ⟨⟨fun x hx => ?_, fun x k hk hx => ?_, fun x r v hx hr hv => ?_, fun x v hx hv => ?_, fun o x v ho hx hv => ?_⟩, ?_, ?_, fun x hx hx' => ?_, fun o x v ho hx hv hno => ?_⟩, e2.trans f2, fun c hc' => ?_⟩
  · rw [qX2_addThing _ hw, rc_n hR]
    simp only [bq_it h12 (by decide)]
    rw [nI_clamp (by omega), nI_1]
    refine f1.trans ?_
    rw [qX2_resetTable _ hw, qX2_rows _ hw]
    have := sW_rowsG_go d hw h12 (V := gV S) (l := []) (μ := π) (by simp) p3 (fun k hk => by simp at hk) (fun p hp' => by simp at hp') 0 (by omega) 1
    rw [show (1 : Int32) = nI 1 from rfl, show (0 : Int32) = nI 0 from rfl, this, bq_I]
    show bw_bV (eX2_resetTable (d + 1 + 1) 8 _ [] π) _ _ = _
    rw [show (nI (([] : List Nat).drop 0 |>.foldl (fun r p => r * gV S p) 1)) = nI 1 from rfl, e1, bq_V]
  · rcases hlt hx with h | h
    · have h0 := hR.1.1 x h
      rw [nr _ _ (by omega) (by omega) (by omega) (by omega) (by omega) (by omega) (by omega), nr _ _ (by omega) (by omega) (by omega) (by omega) (by omega) (by omega) (by omega), nr _ _ (by omega) (by omega) (by omega) (by omega) (by omega) (by omega) (by omega), nr _ _ (by omega) (by omega) (by omega) (by omega) (by omega) (by omega) (by omega), nr _ _ (by omega) (by omega) (by omega) (by omega) (by omega) (by omega) (by omega)]
      show _ = nI (bp_up (gV S) (gN S) n x) ∧ _ = nI (bp_up (gT S) (gN S) t x) ∧ _ = nI (gP S x).length ∧ _ = bo_I (bp_up (gS S) (gN S) none x) ∧ _ = bo_I (bp_up (gD S) (gN S) none x)
      rw [bp_up_ne _ (by omega), bp_up_ne _ (by omega), bp_up_ne _ (by omega), bp_up_ne _ (by omega)]
      exact h0
    · subst h
      show _ = nI (bp_up (gV S) (gN S) n (gN S)) ∧ _ = nI (bp_up (gT S) (gN S) t (gN S)) ∧ _ = nI (gP S (gN S)).length ∧ _ = bo_I (bp_up (gS S) (gN S) none (gN S)) ∧ _ = bo_I (bp_up (gD S) (gN S) none (gN S))
      rw [bp_up_eq, bp_up_eq, bp_up_eq, bp_up_eq, ok_p0 hS (Nat.le_refl _), e3 _ _ (by omega), e3 _ _ (by omega), e3 _ _ (by omega), e3 _ _ (by omega), e3 _ _ (by omega), p1, p2, p3, p6, p7]
      exact ⟨rfl, rfl, rfl, rfl, rfl⟩
  · rcases hlt hx with h | h
    · have := ok_p3 hS h
      have hk' : k < (gP S x).length := hk
      rw [nr _ _ (by omega) (by omega) (by omega) (by omega) (by omega) (by omega) (by omega)]
      exact ra_p hR.1 h hk
    · subst h
      have : gP (bo_thing n t S) (gN S) = [] := ok_p0 hS (Nat.le_refl _)
      rw [this] at hk
      simp at hk
  · rcases hlt hx with h | h
    · rw [hrows x h] at hr
      rw [hV x h] at hv
      have := ok_v4 hS h
      have := (g_rows_pos hS h).2
      rw [nr _ _ (by omega) (by omega) (by omega) (by omega) (by omega) (by omega) (by omega), ra_w hR.1 h hr hv]
      show _ = nI (bp_up (gW S) (gN S) _ x r v)
      rw [bp_up_ne _ (by omega)]
    · subst h
      have hr' : r = 0 := by
        unfold g_rows at hr
        rw [show gP (bo_thing n t S) (gN S) = [] from ok_p0 hS (Nat.le_refl _)] at hr
        simp at hr
        exact hr
      have hv' : v < n := by
        have : v < bp_up (gV S) (gN S) n (gN S) := hv
        rw [bp_up_eq] at this
        exact this
      subst hr'
      rw [e4 0 v (by omega) (by omega) hv']
      show _ = nI (bp_up (gW S) (gN S) _ (gN S) 0 v)
      rw [bp_up_eq]
      by_cases hv0 : v = 0
      · rw [if_pos hv0, if_pos hv0]
      · rw [if_neg hv0, if_neg hv0]; rfl
  · rcases hlt hx with h | h
    · rw [hV x h] at hv
      have := ok_v4 hS h
      rw [nr _ _ (by omega) (by omega) (by omega) (by omega) (by omega) (by omega) (by omega), ra_f hR.1 h hv]
      show _ = nI (bp_up (gF S) (gN S) _ x v)
      rw [bp_up_ne _ (by omega)]
    · subst h
      have hv' : v < n := by
        have : v < bp_up (gV S) (gN S) n (gN S) := hv
        rw [bp_up_eq] at this
        exact this
      rw [e3 _ _ (by omega), f4 v (by omega) hv']
      show _ = nI (bp_up (gF S) (gN S) _ (gN S) v)
      rw [bp_up_eq]
  · have hv4 : v < 4 := by
      rcases hlt hx with h | h
      · rw [hV x h] at hv
        have := ok_v4 hS h
        omega
      · subst h
        have : v < bp_up (gV S) (gN S) n (gN S) := hv
        rw [bp_up_eq] at this
        omega
    have ho6 := ok_o hS
    have ho' : o < gO S := ho
    have hx12 : x < gN S + 1 := hx
    rw [nr _ _ (by omega) (by omega) (by omega) (by omega) (by omega) (by omega) (by omega)]
    exact rc_u hR hS (by omega) (by omega) hv4
  · rw [e3 _ _ (by omega)]; exact p0
  · rw [nr _ _ (by omega) (by omega) (by omega) (by omega) (by omega) (by omega) (by omega)]
    exact hR.2.2.1
  · have : gN S + 1 ≤ x := hx
    rw [nr _ _ (by omega) (by omega) (by omega) (by omega) (by omega) (by omega) (by omega)]
    exact hR.2.2.2.1 x (by omega) hx'
  · rw [nr _ _ (by omega) (by omega) (by omega) (by omega) (by omega) (by omega) (by omega), rc_u hR hS ho hx hv]
    refine ok_u0 hS (fun h => hno ⟨h.1, ?_, ?_⟩)
    · show x < gN S + 1
      omega
    · rw [hV x h.2.1]; exact h.2.2
  · funext j
    exact nr _ _ (by omega) (by omega) (by omega) (by omega) (by omega) (by omega) (by omega)

theorem sM_plain_in (d : Nat) {x T r : Nat} (hx : x < 12) (hr : r < 64) (v : Nat) (hv : v ≤ 4) (μ : bwM) (h2 : μ.1 32 x = nI T) : ∃ ν : bwM, eX4_plainTable d 10 [some (.inr (.inr 30)), some (.inl (nI x)), some (.inl (nI r)), some (.inl (nI v))] [] μ = eX4_plainTable d 2 [some (.inr (.inr 30)), some (.inl (nI x)), some (.inl (nI (r + 1))), some (.inl (nI 4))] [] ν ∧ ν.2 = μ.2 ∧ (∀ c j, ¬ (c = 35 ∧ 256 * x + 4 * r + v ≤ j ∧ j < 256 * x + 4 * r + 4) → ν.1 c j = μ.1 c j) ∧ (∀ u, v ≤ u → u < 4 → ν.1 35 (256 * x + 4 * r + u) = if u = 0 then nI T else 0) := by
  induction hj : 4 - v generalizing v μ with
  | zero =>
    have : v = 4 := by omega
    subst this
    refine ⟨μ, ?_, rfl, fun _ _ _ => rfl, fun u h h' => by omega⟩
    rw [qX4_plainTable_10, if_pos (by decide), nI_1]
  | succ j ih =>
    have key : ∀ z : Int32, (z = if v = 0 then nI T else 0) → ∃ ν : bwM, eX4_plainTable d 44 [some (.inr (.inr 30)), some (.inl (nI x)), some (.inl (nI r)), some (.inl (nI v))] [.inl z, .inl (nI (256 * x + 4 * r + v)), .inr (.inr 35)] μ = eX4_plainTable d 2 [some (.inr (.inr 30)), some (.inl (nI x)), some (.inl (nI (r + 1))), some (.inl (nI 4))] [] ν ∧ ν.2 = μ.2 ∧ (∀ c j, ¬ (c = 35 ∧ 256 * x + 4 * r + v ≤ j ∧ j < 256 * x + 4 * r + 4) → ν.1 c j = μ.1 c j) ∧ (∀ u, v ≤ u → u < 4 → ν.1 35 (256 * x + 4 * r + u) = if u = 0 then nI T else 0) := by
      intro z hz
      obtain ⟨ν, e1, e2, e3, e4⟩ := ih (v + 1) (by omega) (bw_si μ 35 (256 * x + 4 * r + v) z) (by rw [bq_sin _ _ (by omega)]; exact h2) (by omega)
      refine ⟨ν, ?_, e2, fun c j hcj => ?_, fun u hu hu' => ?_⟩
      · rw [qX4_plainTable_44, if_pos ((bq_ii (by omega)).2 (by omega)), nI_clamp (by omega), nI_1]
        exact e1
      · rw [e3 c j (by omega), bq_sin _ _ (by omega)]
      · by_cases huv : u = v
        · subst huv
          rw [e3 _ _ (by omega), bq_sie, hz]
        · exact e4 u (by omega) hu'
    rw [qX4_plainTable_10, bq_256, if_neg (show ¬ (4 : Int32) ≤ nI v from nI_ge (b := 4) (by omega) (by omega)), if_pos ((bq_ii (by omega)).2 (by omega)), nI_clamp (n := x) (by omega), h2]
    by_cases h0 : v = 0
    · rw [if_pos (by rw [h0]; rfl)]
      exact key _ (by rw [if_pos h0])
    · rw [if_neg (nI_ne0 (by omega) (by omega))]
      exact key _ (by rw [if_neg h0])
theorem sM_plain_go (d : Nat) {x T : Nat} (hx : x < 12) (r : Nat) (hr : r ≤ 64) (o4 : Option bwV) (μ : bwM) (h2 : μ.1 32 x = nI T) : ∃ ν : bwM, eX4_plainTable d 2 [some (.inr (.inr 30)), some (.inl (nI x)), some (.inl (nI r)), o4] [] μ = some (none, ν) ∧ ν.2 = μ.2 ∧ (∀ c j, ¬ (c = 35 ∧ 256 * x + 4 * r ≤ j ∧ j < 256 * x + 256) → ν.1 c j = μ.1 c j) ∧ (∀ q u, r ≤ q → q < 64 → u < 4 → ν.1 35 (256 * x + 4 * q + u) = if u = 0 then nI T else 0) := by
  induction hj : 64 - r generalizing r μ o4 with
  | zero =>
    have : r = 64 := by omega
    subst this
    refine ⟨μ, ?_, rfl, fun _ _ _ => rfl, fun q u h h' => by omega⟩
    rw [qX4_plainTable_2, if_pos (by decide)]
  | succ j ih =>
    obtain ⟨ν, e1, e2, e3, e4⟩ := sM_plain_in d (T := T) hx (r := r) (by omega) 0 (by omega) μ h2
    obtain ⟨π, f1, f2, f3, f4⟩ := ih (r + 1) (by omega) (some (.inl (nI 4))) ν (by rw [e3 _ _ (by omega)]; exact h2) (by omega)
    refine ⟨π, ?_, f2.trans e2, fun c j hcj => ?_, fun q u hq hq' hu => ?_⟩
    · rw [qX4_plainTable_2, if_neg (show ¬ (64 : Int32) ≤ nI r from nI_ge (b := 64) (by omega) (by omega))]
      exact e1.trans f1
    · rw [f3 c j (by omega), e3 c j (by omega)]
    · by_cases hqr : q = r
      · subst hqr
        rw [f3 _ _ (by omega)]
        exact e4 u (by omega) hu
      · exact f4 q u (by omega) hq' hu
theorem sM_plain (d : Nat) {x T : Nat} (hx : x < 12) (μ : bwM) (h2 : μ.1 32 x = nI T) : ∃ ν : bwM, bw_call (d + 1) 89 [.inr (.inr 30), .inl (nI x)] μ = some (none, ν) ∧ ν.2 = μ.2 ∧ (∀ c j, ¬ (c = 35 ∧ 256 * x ≤ j ∧ j < 256 * x + 256) → ν.1 c j = μ.1 c j) ∧ (∀ q u, q < 64 → u < 4 → ν.1 35 (256 * x + 4 * q + u) = if u = 0 then nI T else 0) := by
  obtain ⟨ν, e1, e2, e3, e4⟩ := sM_plain_go d hx 0 (by omega) none μ h2
  exact ⟨ν, by rw [qX4_plainTable]; exact e1, e2, fun c j h => e3 c j (by omega), fun q u hq hu => e4 q u (by omega) hq hu⟩
