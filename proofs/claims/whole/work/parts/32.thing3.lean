/-! PURE: thing, the reference's call. -/
theorem sM_thing_go (d : Nat) {S : bwS} {μ : bwM} (hS : bwOK S) (hR : bwR' S μ) {n t : Nat} (x1 x2 : Int32) (k : Nat) (hk : k ≤ gN S) : eX4_thing d 33 [some (.inr (.inr 30)), some (.inl x1), some (.inl x2), some (.inr (.inl (lN (n * bp_prod (gV S) k)))), none, some (.inr (.inl (lN (t * bp_prod (gT S) k)))), none, some (.inl (nI k)), none, none] [] μ = eX4_thing d 33 [some (.inr (.inr 30)), some (.inl x1), some (.inl x2), some (.inr (.inl (lN (n * bp_prod (gV S) (gN S))))), none, some (.inr (.inl (lN (t * bp_prod (gT S) (gN S))))), none, some (.inl (nI (gN S))), none, none] [] μ := by
  have hn := ok_n hS
  induction hj : gN S - k generalizing k with
  | zero =>
    have : k = gN S := by omega
    subst this
    rfl
  | succ j ih =>
    have ht := ok_t100 hS (x := k) (by omega)
    have hv := ok_v4 hS (x := k) (by omega)
    rw [qX4_thing_33, rr_n hR, if_neg (nI_ge (by omega) (by omega)), if_pos ((bq_ii (by omega)).2 (by omega)), nI_clamp (by omega), rm_v hR (by omega), qX4_thing_53, if_pos ((bq_ii (by omega)).2 (by omega)), nI_clamp (by omega), rm_t hR (by omega), nI_l (by omega), nI_l (by omega), lN_mul, lN_mul, nI_1, Nat.mul_assoc, Nat.mul_assoc]
    exact ih (k + 1) (by omega) (by omega)
theorem sM_thing_at (d : Nat) {S : bwS} {μ : bwM} (hS : bwOK S) (hR : bwR' S μ) {n t : Nat} (hn : 2 ≤ n) (hn4 : n ≤ 4) (ht : 1 ≤ t) (ht100 : t ≤ 100) : (bw_thB S n t → ∃ y3 y5 : Int64, bw_call (d + 1) 88 [.inr (.inr 30), .inl (nI n), .inl (nI t)] μ = eX4_thing d 115 [some (.inr (.inr 30)), some (.inl (nI n)), some (.inl (nI t)), some (.inr (.inl y3)), none, some (.inr (.inl y5)), none, some (.inl (nI (gN S))), none, none] [] (bw_si μ 31 (gN S) (nI n))) ∧ (¬ bw_thB S n t → bw_call (d + 1) 88 [.inr (.inr 30), .inl (nI n), .inl (nI t)] μ = some (some (.inl (-3)), μ)) := by
  have hpv := ok_pv hS
  have hpt := ok_pt hS
  have h12 := ok_n hS
  have hpn : n * bp_prod (gV S) (gN S) ≤ 4 * 20000 := Nat.mul_le_mul hn4 hpv
  have hpm : t * bp_prod (gT S) (gN S) ≤ 100 * 1000000000 := Nat.mul_le_mul ht100 hpt
  have hgo := sM_thing_go d hS hR (n := n) (t := t) (nI n) (nI t) 0 (by omega)
  rw [show n * bp_prod (gV S) 0 = n from Nat.mul_one n, show t * bp_prod (gT S) 0 = t from Nat.mul_one t] at hgo
  rw [qX4_thing, if_neg (show ¬ nI n < (2 : Int32) from nI_nlt (b := 2) (by omega) (by omega)), if_neg (show ¬ (4 : Int32) < nI n from nI_nlt (a := 4) (by omega) (by omega)), if_neg (show ¬ nI t < (1 : Int32) from nI_nlt (b := 1) (by omega) (by omega)), if_pos (show nI t ≤ (100 : Int32) from nI_le (b := 100) (by omega) (by omega)), qX4_thing_23, nI_l (by omega), nI_l (by omega), show (0 : Int32) = nI 0 from rfl, hgo, qX4_thing_33, rr_n hR, if_pos (nI_le (by omega) (by omega)), show (12 : Int32) = nI 12 from rfl, show Int64.ofNat 20000 = lN 20000 from rfl]
  unfold bw_thB
  rw [Nat.mul_comm _ n, Nat.mul_comm _ t]
  by_cases h1 : gN S < 12
  · rw [if_neg (fun h => by have := (nI_eq (by omega) (by omega)).1 h; omega)]
    by_cases h2 : n * bp_prod (gV S) (gN S) ≤ 20000
    · rw [if_neg (fun h => by have := (pk_lLT (by omega) (by omega)).1 ((lg_cmp_gt _ _).1 h); omega), qX4_thing_89, show Int64.ofNat 1000000000 = lN 1000000000 from rfl, rr_n hR, if_pos ((bq_ii (n := 12) (by omega)).2 h1), nI_clamp (by omega)]
      by_cases h3 : t * bp_prod (gT S) (gN S) ≤ 1000000000
      · rw [if_pos ((lg_cmp_le _ _).2 ((pk_lLE (by omega) (by omega)).2 h3))]
        exact ⟨fun _ => ⟨_, _, rfl⟩, fun h => absurd ⟨h1, h2, h3⟩ h⟩
      · rw [if_neg (fun h => h3 ((pk_lLE (by omega) (by omega)).1 ((lg_cmp_le _ _).1 h)))]
        exact ⟨fun h => absurd h.2.2 h3, fun _ => rfl⟩
    · rw [if_pos ((lg_cmp_gt _ _).2 ((pk_lLT (by omega) (by omega)).2 (by omega)))]
      exact ⟨fun h => absurd h.2.1 h2, fun _ => rfl⟩
  · rw [if_pos (by rw [show gN S = 12 by omega])]
    exact ⟨fun h => absurd h.1 h1, fun _ => rfl⟩
theorem sM_thingF (d : Nat) {x : Nat} (hx : x < 12) (x1 x2 : Int32) (y3 y5 : Int64) (k : Nat) (hk : k ≤ 4) (μ : bwM) : ∃ ν : bwM, eX4_thing d 150 [some (.inr (.inr 30)), some (.inl x1), some (.inl x2), some (.inr (.inl y3)), none, some (.inr (.inl y5)), none, some (.inl (nI x)), some (.inl (nI k)), none] [] μ = eX4_thing d 178 [some (.inr (.inr 30)), some (.inl x1), some (.inl x2), some (.inr (.inl y3)), none, some (.inr (.inl y5)), none, some (.inl (nI x)), some (.inl (nI 0)), none] [] ν ∧ ν.2 = μ.2 ∧ (∀ c j, ¬ (c = 38 ∧ 4 * x + k ≤ j ∧ j < 4 * x + 4) → ν.1 c j = μ.1 c j) ∧ (∀ v, k ≤ v → v < 4 → ν.1 38 (4 * x + v) = nI 1) := by
  induction hj : 4 - k generalizing k μ with
  | zero =>
    have : k = 4 := by omega
    subst this
    refine ⟨μ, ?_, rfl, fun _ _ _ => rfl, fun i h h' => by omega⟩
    rw [qX4_thing_150, if_pos (by decide)]; rfl
  | succ j ih =>
    obtain ⟨ν, e1, e2, e3, e4⟩ := ih (k + 1) (by omega) (bw_si μ 38 (4 * x + k) 1) (by omega)
    refine ⟨ν, ?_, e2, fun c j hcj => ?_, fun i hi hi' => ?_⟩
    · rw [qX4_thing_150, if_neg (show ¬ (4 : Int32) ≤ nI k from nI_ge (b := 4) (by omega) (by omega)), bq_4, if_pos ((bq_ii (by omega)).2 (by omega)), nI_clamp (by omega), qX4_thing_169, nI_1]
      exact e1
    · rw [e3 c j (by omega), bq_sin _ _ (by omega)]
    · by_cases hik : i = k
      · subst hik
        rw [e3 _ _ (by omega), bq_sie]; rfl
      · exact e4 i (by omega) hi'
theorem sM_thingU_in (d : Nat) {x o : Nat} (hx : x < 12) (ho : o < 6) (x1 x2 : Int32) (y3 y5 : Int64) (k : Nat) (hk : k ≤ 4) (μ : bwM) : ∃ ν : bwM, eX4_thing d 188 [some (.inr (.inr 30)), some (.inl x1), some (.inl x2), some (.inr (.inl y3)), none, some (.inr (.inl y5)), none, some (.inl (nI x)), some (.inl (nI o)), some (.inl (nI k))] [] μ = eX4_thing d 178 [some (.inr (.inr 30)), some (.inl x1), some (.inl x2), some (.inr (.inl y3)), none, some (.inr (.inl y5)), none, some (.inl (nI x)), some (.inl (nI (o + 1))), some (.inl (nI 4))] [] ν ∧ ν.2 = μ.2 ∧ (∀ c j, ¬ (c = 39 ∧ 48 * o + 4 * x + k ≤ j ∧ j < 48 * o + 4 * x + 4) → ν.1 c j = μ.1 c j) ∧ (∀ v, k ≤ v → v < 4 → ν.1 39 (48 * o + 4 * x + v) = 0) := by
  induction hj : 4 - k generalizing k μ with
  | zero =>
    have : k = 4 := by omega
    subst this
    refine ⟨μ, ?_, rfl, fun _ _ _ => rfl, fun i h h' => by omega⟩
    rw [qX4_thing_188, if_pos (by decide), nI_1]
  | succ j ih =>
    obtain ⟨ν, e1, e2, e3, e4⟩ := ih (k + 1) (by omega) (bw_si μ 39 (48 * o + 4 * x + k) 0) (by omega)
    refine ⟨ν, ?_, e2, fun c j hcj => ?_, fun i hi hi' => ?_⟩
    · rw [qX4_thing_188, if_neg (show ¬ (4 : Int32) ≤ nI k from nI_ge (b := 4) (by omega) (by omega)), bq_48, if_pos ((bq_ii (by omega)).2 (by omega)), nI_clamp (by omega), qX4_thing_213, nI_1]
      exact e1
    · rw [e3 c j (by omega), bq_sin _ _ (by omega)]
    · by_cases hik : i = k
      · subst hik
        rw [e3 _ _ (by omega), bq_sie]
      · exact e4 i (by omega) hi'
theorem sM_thingU (d : Nat) {x : Nat} (hx : x < 12) (x1 x2 : Int32) (y3 y5 : Int64) (o : Nat) (ho : o ≤ 6) (o9 : Option bwV) (μ : bwM) : ∃ ν : bwM, eX4_thing d 178 [some (.inr (.inr 30)), some (.inl x1), some (.inl x2), some (.inr (.inl y3)), none, some (.inr (.inl y5)), none, some (.inl (nI x)), some (.inl (nI o)), o9] [] μ = bw_bV (bw_call d 89 [.inr (.inr 30), .inl (nI x)] (bw_si ν 30 1 ((ν.1 30 1) + (1 : Int32)))) none (fun m1 => some (some (.inl (nI x)), bw_si m1 30 25 (0 : Int32))) ∧ ν.2 = μ.2 ∧ (∀ c j, ¬ (c = 39 ∧ 48 * o ≤ j ∧ (j / 4) % 12 = x) → ν.1 c j = μ.1 c j) ∧ (∀ p v, o ≤ p → p < 6 → v < 4 → ν.1 39 (48 * p + 4 * x + v) = 0) := by
  induction hj : 6 - o generalizing o o9 μ with
  | zero =>
    have : o = 6 := by omega
    subst this
    refine ⟨μ, ?_, rfl, fun _ _ _ => rfl, fun i v h h' => by omega⟩
    rw [qX4_thing_178, if_pos (by decide)]
    simp only [qX4_thing_241]
  | succ j ih =>
    obtain ⟨π, f1, f2, f3, f4⟩ := sM_thingU_in d hx (o := o) (by omega) x1 x2 y3 y5 0 (by omega) μ
    obtain ⟨ν, e1, e2, e3, e4⟩ := ih (o + 1) (by omega) (some (.inl (nI 4))) π (by omega)
    refine ⟨ν, ?_, e2.trans f2, fun c j hcj => ?_, fun p v hp hp' hv => ?_⟩
    · rw [qX4_thing_178, if_neg (show ¬ (6 : Int32) ≤ nI o from nI_ge (b := 6) (by omega) (by omega))]
      exact f1.trans e1
    · rw [e3 c j (by omega), f3 c j (by omega)]
    · by_cases hpo : p = o
      · subst hpo
        rw [e3 _ _ (by omega)]
        exact f4 v (by omega) hv
      · exact e4 p v (by omega) hp' hv

theorem sM_thing (d : Nat) {S : bwS} {μ : bwM} (hS : bwOK S) (hR : bwR' S μ) {n t : Nat} (hn : 2 ≤ n) (hn4 : n ≤ 4) (ht : 1 ≤ t) (ht100 : t ≤ 100) (h : bw_thB S n t) : ∃ ν, bw_call (d + 2) 88 [.inr (.inr 30), .inl (nI n), .inl (nI t)] μ = some (some (.inl (nI (gN S))), ν) ∧ bwR' (bo_thing n t S) ν ∧ ν.1 30 25 = 0 ∧ ν.2 = μ.2 ∧ (∀ j, j ≠ 1 → j ≠ 25 → ν.1 30 j = μ.1 30 j) ∧ (∀ c, c < 30 ∨ 39 < c → ν.1 c = μ.1 c) := by
  have h12 := h.1
  obtain ⟨y3, y5, a1⟩ := (sM_thing_at (d + 1) hS hR hn hn4 ht ht100).1 h
  obtain ⟨π, f1, f2, f3, f4⟩ := sM_thingF (d + 1) h12 (nI n) (nI t) y3 y5 0 (by omega) (bw_si (bw_si (bw_si (bw_si (bw_si μ 31 (gN S) (nI n)) 32 (gN S) (nI t)) 33 (gN S) 0) 36 (gN S) (-1)) 37 (gN S) (-1))
  obtain ⟨ρ, g1, g2, g3, g4⟩ := sM_thingU (d + 1) h12 (nI n) (nI t) y3 y5 0 (by omega) none π
  have pr : ∀ c j, ¬ (c = 31 ∧ j = gN S) → ¬ (c = 32 ∧ j = gN S) → ¬ (c = 33 ∧ j = gN S) → ¬ (c = 36 ∧ j = gN S) → ¬ (c = 37 ∧ j = gN S) → ¬ (c = 38 ∧ 4 * gN S ≤ j ∧ j < 4 * gN S + 4) → ¬ (c = 39 ∧ (j / 4) % 12 = gN S) → ρ.1 c j = μ.1 c j := by
    intro c j h1 h2 h3 h4 h5 h6 h7
    rw [g3 _ _ (by omega), f3 _ _ (by omega), bq_sin _ _ (by omega), bq_sin _ _ (by omega), bq_sin _ _ (by omega), bq_sin _ _ (by omega), bq_sin _ _ (by omega)]
  have p1 : ρ.1 31 (gN S) = nI n := by rw [g3 _ _ (by omega), f3 _ _ (by omega), bq_sin _ _ (by omega), bq_sin _ _ (by omega), bq_sin _ _ (by omega), bq_sin _ _ (by omega), bq_sie]
  have p2 : ρ.1 32 (gN S) = nI t := by rw [g3 _ _ (by omega), f3 _ _ (by omega), bq_sin _ _ (by omega), bq_sin _ _ (by omega), bq_sin _ _ (by omega), bq_sie]
  have p3 : ρ.1 33 (gN S) = nI 0 := by rw [g3 _ _ (by omega), f3 _ _ (by omega), bq_sin _ _ (by omega), bq_sin _ _ (by omega), bq_sie]; rfl
  have p6 : ρ.1 36 (gN S) = -1 := by rw [g3 _ _ (by omega), f3 _ _ (by omega), bq_sin _ _ (by omega), bq_sie]
  have p7 : ρ.1 37 (gN S) = -1 := by rw [g3 _ _ (by omega), f3 _ _ (by omega), bq_sie]
  have p8 : ∀ v, v < 4 → ρ.1 38 (4 * gN S + v) = nI 1 := fun v hv => by rw [g3 _ _ (by omega), f4 v (by omega) hv]
  have p9 : ∀ o v, o < 6 → v < 4 → ρ.1 39 (48 * o + 4 * gN S + v) = 0 := fun o v ho hv => g4 o v (by omega) ho hv
  have p0 : ρ.1 30 1 = nI (gN S) := by rw [pr _ _ (by omega) (by omega) (by omega) (by omega) (by omega) (by omega) (by omega)]; exact rr_n hR
  obtain ⟨τ, e1, e2, e3, e4⟩ := sM_plain d h12 (bw_si ρ 30 1 (nI (gN S + 1))) (T := t) (by rw [bq_sin _ _ (by omega)]; exact p2)
  have nr : ∀ c j, ¬ (c = 30 ∧ j = 1) → ¬ (c = 30 ∧ j = 25) → ¬ (c = 35 ∧ 256 * gN S ≤ j ∧ j < 256 * gN S + 256) → (bw_si τ 30 25 0).1 c j = ρ.1 c j := by
    intro c j h1 h2 h3
    rw [bq_sin _ _ (by omega), e3 _ _ (by omega), bq_sin _ _ (by omega)]
  have nm : ∀ c j, ¬ (c = 30 ∧ j = 1) → ¬ (c = 30 ∧ j = 25) → ¬ (c = 35 ∧ 256 * gN S ≤ j ∧ j < 256 * gN S + 256) → ¬ (c = 31 ∧ j = gN S) → ¬ (c = 32 ∧ j = gN S) → ¬ (c = 33 ∧ j = gN S) → ¬ (c = 36 ∧ j = gN S) → ¬ (c = 37 ∧ j = gN S) → ¬ (c = 38 ∧ 4 * gN S ≤ j ∧ j < 4 * gN S + 4) → ¬ (c = 39 ∧ (j / 4) % 12 = gN S) → (bw_si τ 30 25 0).1 c j = μ.1 c j := by
    intro c j h1 h2 h3 k1 k2 k3 k4 k5 k6 k7
    rw [nr _ _ h1 h2 h3, pr _ _ k1 k2 k3 k4 k5 k6 k7]
  have hlt : ∀ {x}, x < gN (bo_thing n t S) → x < gN S ∨ x = gN S := fun {x} hx => by
    have : x < gN S + 1 := hx
    omega
  have hV : ∀ x, x < gN S → gV (bo_thing n t S) x = gV S x := fun x hx => bp_up_ne _ (by omega) _
  have hrows : ∀ x, x < gN S → g_rows (bo_thing n t S) x = g_rows S x := by
    intro x hx
    unfold g_rows
    have : ∀ (l : List Nat), (∀ p, p ∈ l → p < gN S) → ∀ r, l.foldl (fun r p => r * gV (bo_thing n t S) p) r = l.foldl (fun r p => r * gV S p) r := by
      intro l
      induction l with
      | nil => intro _ r; rfl
      | cons p l ih =>
        intro hl r
        rw [List.foldl_cons, List.foldl_cons, hV p (hl p (by simp))]
        exact ih (fun q hq => hl q (by simp [hq])) _
    exact this _ (fun p hp => ok_pn hS hx hp) 1
  refine ⟨bw_si τ 30 25 0, ?_, ⟨⟨fun x hx => ?_, fun x k hk hx => ?_, fun x r v hx hr hv => ?_, fun x v hx hv => ?_, fun o x v ho hx hv => ?_⟩, ?_, ?_⟩, bq_sie _ _ _ _, ?_, fun j h1 h2 => ?_, fun c hc' => ?_⟩
  · rw [a1, qX4_thing_115]
    simp only [bq_it h12 (by decide)]
    rw [qX4_thing_139, if_pos ((bq_ii (by omega)).2 h12), nI_clamp (by omega), show (0 : Int32) = nI 0 from rfl]
    refine (f1.trans g1).trans ?_
    rw [p0, nI_1, e1, bq_V]
    rfl
  · rcases hlt hx with h | h
    · have h0 := hR.1.1 x h
      rw [nm _ _ (by omega) (by omega) (by omega) (by omega) (by omega) (by omega) (by omega) (by omega) (by omega) (by omega), nm _ _ (by omega) (by omega) (by omega) (by omega) (by omega) (by omega) (by omega) (by omega) (by omega) (by omega), nm _ _ (by omega) (by omega) (by omega) (by omega) (by omega) (by omega) (by omega) (by omega) (by omega) (by omega), nm _ _ (by omega) (by omega) (by omega) (by omega) (by omega) (by omega) (by omega) (by omega) (by omega) (by omega), nm _ _ (by omega) (by omega) (by omega) (by omega) (by omega) (by omega) (by omega) (by omega) (by omega) (by omega)]
      show _ = nI (bp_up (gV S) (gN S) n x) ∧ _ = nI (bp_up (gT S) (gN S) t x) ∧ _ = nI (gP S x).length ∧ _ = bo_I (bp_up (gS S) (gN S) none x) ∧ _ = bo_I (bp_up (gD S) (gN S) none x)
      rw [bp_up_ne _ (by omega), bp_up_ne _ (by omega), bp_up_ne _ (by omega), bp_up_ne _ (by omega)]
      exact h0
    · subst h
      show _ = nI (bp_up (gV S) (gN S) n (gN S)) ∧ _ = nI (bp_up (gT S) (gN S) t (gN S)) ∧ _ = nI (gP S (gN S)).length ∧ _ = bo_I (bp_up (gS S) (gN S) none (gN S)) ∧ _ = bo_I (bp_up (gD S) (gN S) none (gN S))
      rw [bp_up_eq, bp_up_eq, bp_up_eq, bp_up_eq, ok_p0 hS (Nat.le_refl _), nr _ _ (by omega) (by omega) (by omega), nr _ _ (by omega) (by omega) (by omega), nr _ _ (by omega) (by omega) (by omega), nr _ _ (by omega) (by omega) (by omega), nr _ _ (by omega) (by omega) (by omega)]
      exact ⟨p1, p2, p3, p6, p7⟩
  · rcases hlt hx with h | h
    · have := ok_p3 hS h
      have hk' : k < (gP S x).length := hk
      rw [nm _ _ (by omega) (by omega) (by omega) (by omega) (by omega) (by omega) (by omega) (by omega) (by omega) (by omega)]
      exact ra_p hR.1 h hk
    · subst h
      have : gP (bo_thing n t S) (gN S) = [] := ok_p0 hS (Nat.le_refl _)
      rw [this] at hk
      simp at hk
  · rcases hlt hx with h | h
    · rw [hrows x h] at hr
      rw [hV x h] at hv
      have := ok_v4 hS h
      have := (g_rows_pos hS h).2
      rw [nm _ _ (by omega) (by omega) (by omega) (by omega) (by omega) (by omega) (by omega) (by omega) (by omega) (by omega), ra_w hR.1 h hr hv]
      show _ = nI (bp_up (gW S) (gN S) _ x r v)
      rw [bp_up_ne _ (by omega)]
    · subst h
      have hr' : r = 0 := by
        unfold g_rows at hr
        rw [show gP (bo_thing n t S) (gN S) = [] from ok_p0 hS (Nat.le_refl _)] at hr
        simp at hr
        exact hr
      have hv' : v < n := by
        have : v < bp_up (gV S) (gN S) n (gN S) := hv
        rw [bp_up_eq] at this
        exact this
      subst hr'
      rw [bq_sin _ _ (by omega)]
      refine (e4 0 v (by omega) (by omega)).trans ?_
      show _ = nI (bp_up (gW S) (gN S) _ (gN S) 0 v)
      rw [bp_up_eq]
      by_cases hv0 : v = 0
      · rw [if_pos hv0, if_pos hv0]
      · rw [if_neg hv0, if_neg hv0]; rfl
  · rcases hlt hx with h | h
    · rw [hV x h] at hv
      have := ok_v4 hS h
      rw [nm _ _ (by omega) (by omega) (by omega) (by omega) (by omega) (by omega) (by omega) (by omega) (by omega) (by omega), ra_f hR.1 h hv]
      show _ = nI (bp_up (gF S) (gN S) _ x v)
      rw [bp_up_ne _ (by omega)]
    · subst h
      have hv' : v < n := by
        have : v < bp_up (gV S) (gN S) n (gN S) := hv
        rw [bp_up_eq] at this
        exact this
      rw [nr _ _ (by omega) (by omega) (by omega)]
      refine (p8 v (by omega)).trans ?_
      show _ = nI (bp_up (gF S) (gN S) _ (gN S) v)
      rw [bp_up_eq]
  · have ho6 := ok_o hS
    have ho' : o < gO S := ho
    rcases hlt hx with h | h
    · rw [hV x h] at hv
      have := ok_v4 hS h
      rw [nm _ _ (by omega) (by omega) (by omega) (by omega) (by omega) (by omega) (by omega) (by omega) (by omega) (by omega)]
      exact ra_u hR.1 ho h hv
    · subst h
      have hv' : v < n := by
        have : v < bp_up (gV S) (gN S) n (gN S) := hv
        rw [bp_up_eq] at this
        exact this
      rw [nr _ _ (by omega) (by omega) (by omega)]
      refine (p9 o v (by omega) (by omega)).trans (ok_u0 hS (fun h => ?_)).symm
      omega
  · rw [bq_sin _ _ (by omega), e3 _ _ (by omega), bq_sie]; rfl
  · rw [nm _ _ (by omega) (by omega) (by omega) (by omega) (by omega) (by omega) (by omega) (by omega) (by omega) (by omega)]
    exact hR.2.2
  · show τ.2 = μ.2
    rw [e2]
    show ρ.2 = μ.2
    rw [g2, f2]
    rfl
  · exact nm _ _ (by omega) (by omega) (by omega) (by omega) (by omega) (by omega) (by omega) (by omega) (by omega) (by omega)
  · funext j
    exact nm _ _ (by omega) (by omega) (by omega) (by omega) (by omega) (by omega) (by omega) (by omega) (by omega) (by omega)
