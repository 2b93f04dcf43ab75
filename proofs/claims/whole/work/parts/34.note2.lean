/-! PURE: the reference's log: notes with rows. -/
theorem sM_note_1 (d : Nat) {b : Nat} (hb : b < 12) {k : Nat} (hk : k ≤ 100) (μ : bwM) (h : μ.1 30 25 = nI k) : ∃ ν, bw_call (d + 1) 139 [.inr (.inr 30), .inl 1, .inl (nI b)] μ = some (none, ν) ∧ bw_nt k 1 (nI b) μ ν ∧ ν.1 50 (bh_a k) = μ.1 33 b ∧ (∀ i, i < 256 → ν.1 52 (300 * bh_a k + i) = μ.1 35 (256 * b + i)) ∧ (∀ i, i < 3 → ν.1 52 (300 * bh_a k + 256 + i) = μ.1 34 (3 * b + i)) := by
  obtain ⟨π, o3, e1, e2, e3, e4, e5, e6⟩ := sM_room d 1 (nI b) hk μ h
  have ha : bh_a k < 100 := bh_a100
  have hc := bp_copy (fun i μ => eX4_note d 195 [some (.inr (.inr 30)), some (.inl 1), some (.inl (nI b)), some (.inl (nI (300 * bh_a k))), some (.inl (nI i))] [] μ) 35 (256 * b) 52 (300 * bh_a k) 256 (Or.inl (by omega)) (fun i τ hi => by
      rw [qX4_note_195, if_neg (show ¬ (256 : Int32) ≤ nI i from nI_ge (b := 256) (by omega) (by omega)), if_pos rfl, show (256 : Int32) = nI 256 from rfl, pk_mul, nI_add, nI_add, if_pos ((bq_ii (by omega)).2 (by omega)), if_pos ((bq_ii (by omega)).2 (by omega)), nI_clamp (by omega), nI_clamp (by omega), qX4_note_230, nI_1]) 0 (by omega) (bw_si (bw_si (bw_si π 48 (bh_a k) 1) 49 (bh_a k) (nI b)) 50 (bh_a k) (π.1 33 b))
  obtain ⟨ρ, f1, f2, f3, f4⟩ := hc
  have hc2 := bp_copy (fun i μ => eX4_note d 239 [some (.inr (.inr 30)), some (.inl 1), some (.inl (nI b)), some (.inl (nI (300 * bh_a k))), some (.inl (nI i))] [] μ) 34 (3 * b) 52 (300 * bh_a k + 256) 3 (Or.inl (by omega)) (fun i τ hi => by
      rw [qX4_note_239, if_neg (show ¬ (3 : Int32) ≤ nI i from nI_ge (b := 3) (by omega) (by omega)), if_pos rfl, bq_3, show (256 : Int32) = nI 256 from rfl, nI_add, nI_add, if_pos ((bq_ii (by omega)).2 (by omega)), if_pos ((bq_ii (by omega)).2 (by omega)), nI_clamp (by omega), nI_clamp (by omega), qX4_note_274, nI_1]) 0 (by omega) ρ
  obtain ⟨σ, g1, g2, g3, g4⟩ := hc2
  have s0 : ∀ c j, c ≠ 48 → c ≠ 49 → c ≠ 50 → c ≠ 52 → σ.1 c j = π.1 c j := by
    intro c j h1 h2 h3 h4
    rw [g3 _ _ (by omega), f3 _ _ (by omega), bq_sin _ _ (by omega), bq_sin _ _ (by omega), bq_sin _ _ (by omega)]
  refine ⟨bw_si σ 30 25 (nI (bh_a k + 1)), ?_, ⟨bq_sie _ _ _ _, fun j hj => ?_, ?_, fun c hc hc' => ?_, fun i hi => ?_, ?_, ?_⟩, ?_, fun i hi => ?_, fun i hi => ?_⟩
  · have q1 : ∀ m, (bw_si π 48 (bh_a k) 1).1 30 m = π.1 30 m := fun m => bq_sin _ _ (by omega)
    have q2 : ∀ m, (bw_si (bw_si π 48 (bh_a k) 1) 49 (bh_a k) (nI b)).1 30 m = π.1 30 m := fun m => by rw [bq_sin _ _ (by omega), bq_sin _ _ (by omega)]
    have q3 : ∀ m, (bw_si (bw_si π 48 (bh_a k) 1) 49 (bh_a k) (nI b)).1 33 m = π.1 33 m := fun m => by rw [bq_sin _ _ (by omega), bq_sin _ _ (by omega)]
    rw [e1, qX4_note_136, e2]
    simp only [nI_clamp (show bh_a k < 2 ^ 31 by omega), q1, q2, e2, bq_it ha (by decide), bq_it hb (by decide)]
    rw [if_pos trivial, nI_clamp (by omega), q3, qX4_note_191, if_pos ((bq_ii (by omega)).2 ha), nI_clamp (by omega), show (300 : Int32) = nI 300 from rfl, pk_mul, show (0 : Int32) = nI 0 from rfl]
    refine f1.trans ?_
    show eX4_note d 195 _ [] ρ = _
    rw [qX4_note_195, if_pos (by decide), qX4_note_236, show (0 : Int32) = nI 0 from rfl]
    refine g1.trans ?_
    show eX4_note d 239 _ [] σ = _
    rw [qX4_note_239, if_pos (by decide), qX4_note_280, qX4_note_283, if_neg (by decide), if_neg (by decide), qX4_note_318, s0 30 25 (by omega) (by omega) (by omega) (by omega), e2, nI_1]
  · rw [bq_sin _ _ (by omega), s0 _ _ (by omega) (by omega) (by omega) (by omega), e3 j hj]
  · show σ.2 = μ.2
    rw [g2, f2]; exact e4
  · funext j
    rw [bq_sin _ _ (by omega), s0 _ _ (by omega) (by omega) (by omega) (by omega), e5 c hc hc']
  · have := e6 i hi
    have hs : ∀ c, c = 48 ∨ c = 49 ∨ c = 50 ∨ c = 51 → (bw_si σ 30 25 (nI (bh_a k + 1))).1 c i = π.1 c i := fun c hc => by
      rw [bq_sin _ _ (by omega), g3 _ _ (by omega), f3 _ _ (by omega), bq_sin _ _ (by omega), bq_sin _ _ (by omega), bq_sin _ _ (by omega)]
    rw [hs 48 (by omega), hs 49 (by omega), hs 50 (by omega), hs 51 (by omega)]
    refine ⟨this.1, this.2.1, this.2.2.1, this.2.2.2.1, fun j hj => ?_⟩
    rw [bq_sin _ _ (by omega), g3 _ _ (by omega), f3 _ _ (by omega), bq_sin _ _ (by omega), bq_sin _ _ (by omega), bq_sin _ _ (by omega)]
    exact this.2.2.2.2 j hj
  · rw [bq_sin _ _ (by omega), g3 _ _ (by omega), f3 _ _ (by omega), bq_sin _ _ (by omega), bq_sin _ _ (by omega), bq_sie]
  · rw [bq_sin _ _ (by omega), g3 _ _ (by omega), f3 _ _ (by omega), bq_sin _ _ (by omega), bq_sie]
  · rw [bq_sin _ _ (by omega), g3 _ _ (by omega), f3 _ _ (by omega), bq_sie, e5 33 (by omega) (by omega)]
  · rw [bq_sin _ _ (by omega), g3 _ _ (by omega), f4 i (by omega) hi, bq_sin _ _ (by omega), bq_sin _ _ (by omega), bq_sin _ _ (by omega), e5 35 (by omega) (by omega)]
  · rw [bq_sin _ _ (by omega), g4 i (by omega) hi, f3 _ _ (by omega), bq_sin _ _ (by omega), bq_sin _ _ (by omega), bq_sin _ _ (by omega), e5 34 (by omega) (by omega)]
theorem sM_note_5 (d : Nat) (x2 : Int32) {k : Nat} (hk : k ≤ 100) (μ : bwM) (h : μ.1 30 25 = nI k) : ∃ ν, bw_call (d + 1) 139 [.inr (.inr 30), .inl 5, .inl x2] μ = some (none, ν) ∧ bw_nt k 5 x2 μ ν ∧ ν.1 50 (bh_a k) = μ.1 30 10 ∧ (∀ i, i < 288 → ν.1 52 (300 * bh_a k + i) = μ.1 39 i) := by
  obtain ⟨π, o3, e1, e2, e3, e4, e5, e6⟩ := sM_room d 5 x2 hk μ h
  have ha : bh_a k < 100 := bh_a100
  have hc := bp_copy (fun i μ => eX4_note d 283 [some (.inr (.inr 30)), some (.inl 5), some (.inl x2), some (.inl (nI (300 * bh_a k))), some (.inl (nI i))] [] μ) 39 0 52 (300 * bh_a k) 288 (Or.inl (by omega)) (fun i τ hi => by
      rw [qX4_note_283, if_neg (show ¬ (288 : Int32) ≤ nI i from nI_ge (b := 288) (by omega) (by omega)), if_pos rfl, nI_add, if_pos ((bq_ii (by omega)).2 (by omega)), if_pos ((bq_ii (by omega)).2 (by omega)), nI_clamp (by omega), nI_clamp (by omega), nI_1, Nat.zero_add]) 0 (by omega) (bw_si (bw_si (bw_si π 48 (bh_a k) 5) 49 (bh_a k) x2) 50 (bh_a k) (π.1 30 10))
  obtain ⟨σ, f1, f2, f3, f4⟩ := hc
  have s0 : ∀ c j, c ≠ 48 → c ≠ 49 → c ≠ 50 → c ≠ 52 → σ.1 c j = π.1 c j := by
    intro c j h1 h2 h3 h4
    rw [f3 _ _ (by omega), bq_sin _ _ (by omega), bq_sin _ _ (by omega), bq_sin _ _ (by omega)]
  refine ⟨bw_si σ 30 25 (nI (bh_a k + 1)), ?_, ⟨bq_sie _ _ _ _, fun j hj => ?_, ?_, fun c hc hc' => ?_, fun i hi => ?_, ?_, ?_⟩, ?_, fun i hi => ?_⟩
  · have q1 : ∀ m, (bw_si π 48 (bh_a k) 5).1 30 m = π.1 30 m := fun m => bq_sin _ _ (by omega)
    have q2 : ∀ m, (bw_si (bw_si π 48 (bh_a k) 5) 49 (bh_a k) x2).1 30 m = π.1 30 m := fun m => by rw [bq_sin _ _ (by omega), bq_sin _ _ (by omega)]
    rw [e1, qX4_note_136, e2]
    simp only [nI_clamp (show bh_a k < 2 ^ 31 by omega), q1, q2, e2, bq_it ha (by decide)]
    rw [if_neg (by decide), qX4_note_191, if_pos ((bq_ii (by omega)).2 ha), nI_clamp (by omega), qX4_note_195, if_neg (by decide), if_neg (by decide), qX4_note_236, qX4_note_239, if_neg (by decide), if_neg (by decide), qX4_note_280, show (300 : Int32) = nI 300 from rfl, pk_mul, show (0 : Int32) = nI 0 from rfl]
    refine f1.trans ?_
    show eX4_note d 283 _ [] σ = _
    rw [qX4_note_283, if_pos (by decide), qX4_note_318, s0 30 25 (by omega) (by omega) (by omega) (by omega), e2, nI_1]
  · rw [bq_sin _ _ (by omega), s0 _ _ (by omega) (by omega) (by omega) (by omega), e3 j hj]
  · show σ.2 = μ.2
    rw [f2]; exact e4
  · funext j
    rw [bq_sin _ _ (by omega), s0 _ _ (by omega) (by omega) (by omega) (by omega), e5 c hc hc']
  · have := e6 i hi
    have hs : ∀ c, c = 48 ∨ c = 49 ∨ c = 50 ∨ c = 51 → (bw_si σ 30 25 (nI (bh_a k + 1))).1 c i = π.1 c i := fun c hc => by
      rw [bq_sin _ _ (by omega), f3 _ _ (by omega), bq_sin _ _ (by omega), bq_sin _ _ (by omega), bq_sin _ _ (by omega)]
    rw [hs 48 (by omega), hs 49 (by omega), hs 50 (by omega), hs 51 (by omega)]
    refine ⟨this.1, this.2.1, this.2.2.1, this.2.2.2.1, fun j hj => ?_⟩
    rw [bq_sin _ _ (by omega), f3 _ _ (by omega), bq_sin _ _ (by omega), bq_sin _ _ (by omega), bq_sin _ _ (by omega)]
    exact this.2.2.2.2 j hj
  · rw [bq_sin _ _ (by omega), f3 _ _ (by omega), bq_sin _ _ (by omega), bq_sin _ _ (by omega), bq_sie]
  · rw [bq_sin _ _ (by omega), f3 _ _ (by omega), bq_sin _ _ (by omega), bq_sie]
  · rw [bq_sin _ _ (by omega), f3 _ _ (by omega), bq_sie, e3 10 (by omega)]
  · have h4 := f4 i (by omega) hi
    rw [bq_sin _ _ (by omega), h4, Nat.zero_add, bq_sin _ _ (by omega), bq_sin _ _ (by omega), bq_sin _ _ (by omega), e5 39 (by omega) (by omega)]
/-- an entry of the log at place i: how S' goes back to S -/
def bw_lg (μ : bwM) (i : Nat) (S S' : bwS) : Prop :=
  (∃ b l, b < gN S ∧ μ.1 48 i = 1 ∧ μ.1 49 i = nI b ∧ μ.1 50 i = nI (gP S b).length ∧ (∀ r v, r < g_rows S b → v < gV S b → μ.1 52 (300 * i + (4 * r + v)) = nI (gW S b r v)) ∧ (∀ k (h : k < (gP S b).length), μ.1 52 (300 * i + (256 + k)) = nI (gP S b)[k]) ∧ S' = bo_par b l S) ∨
  (∃ x r v k, x < gN S ∧ r < g_rows S x ∧ v < gV S x ∧ μ.1 48 i = 2 ∧ μ.1 49 i = nI (256 * x + 4 * r + v) ∧ μ.1 50 i = nI (gW S x r v) ∧ S' = bo_weight x r v k S) ∨
  (∃ x s u, x < gN S ∧ μ.1 48 i = 3 ∧ μ.1 49 i = nI x ∧ μ.1 50 i = bo_I (gS S x) ∧ μ.1 51 i = bo_I (gD S x) ∧ S' = bo_known x s u S) ∨
  (∃ x v f, x < gN S ∧ v < gV S x ∧ μ.1 48 i = 4 ∧ μ.1 49 i = nI (4 * x + v) ∧ μ.1 50 i = nI (gF S x v) ∧ S' = bo_force x v f S) ∨
  (∃ n, μ.1 48 i = 5 ∧ μ.1 50 i = nI (gO S) ∧ (∀ o x v, o < gO S → x < gN S → v < gV S x → μ.1 52 (300 * i + (48 * o + 4 * x + v)) = gU S o x v) ∧ S' = bo_options n S) ∨
  (∃ o x v u, o < gO S ∧ x < gN S ∧ v < gV S x ∧ μ.1 48 i = 6 ∧ μ.1 49 i = nI (48 * o + 4 * x + v) ∧ μ.1 50 i = gU S o x v ∧ S' = bo_worth o x v u S)
theorem lg_move {μ ν : bwM} {i j : Nat} {S S' : bwS} (hS : bwOK S) (h : bw_lg μ j S S') (h0 : ν.1 48 i = μ.1 48 j) (h1 : ν.1 49 i = μ.1 49 j) (h2 : ν.1 50 i = μ.1 50 j) (h3 : ν.1 51 i = μ.1 51 j) (h4 : ∀ q, q < 300 → ν.1 52 (300 * i + q) = μ.1 52 (300 * j + q)) : bw_lg ν i S S' := by
  have hn := ok_n hS
  have ho := ok_o hS
  unfold bw_lg at h ⊢
  rw [h0, h1, h2, h3]
  rcases h with ⟨b, l, a1, a2, a3, a4, a5, a6, a7⟩ | h | h | h | ⟨n, a1, a2, a3, a4⟩ | h
  · refine Or.inl ⟨b, l, a1, a2, a3, a4, fun r v hr hv => ?_, fun k hk => ?_, a7⟩
    · have := ok_v4 hS a1
      have := (g_rows_pos hS a1).2
      rw [h4 _ (by omega)]; exact a5 r v hr hv
    · have := ok_p3 hS a1
      rw [h4 _ (by omega)]; exact a6 k hk
  · exact Or.inr (Or.inl h)
  · exact Or.inr (Or.inr (Or.inl h))
  · exact Or.inr (Or.inr (Or.inr (Or.inl h)))
  · refine Or.inr (Or.inr (Or.inr (Or.inr (Or.inl ⟨n, a1, a2, fun o x v ho' hx hv => ?_, a4⟩))))
    have := ok_v4 hS hx
    rw [h4 _ (by omega)]; exact a3 o x v ho' hx hv
  · exact Or.inr (Or.inr (Or.inr (Or.inr (Or.inr h))))
/-- the whole log over a chain of webs -/
def bwL (st : Nat → bwS) (k : Nat) (μ : bwM) : Prop := k ≤ 100 ∧ μ.1 30 25 = nI k ∧ (∀ i, i ≤ k → bwOK (st i)) ∧ ∀ i, i < k → bw_lg μ i (st i) (st (i + 1))
theorem bwL_note {st : Nat → bwS} {k : Nat} {μ ν π : bwM} {x1 x2 : Int32} {S' : bwS} (h : bwL st k μ) (hn : bw_nt k x1 x2 μ ν) (hS' : bwOK S') (h25 : π.1 30 25 = ν.1 30 25) (hf : ∀ c i, i < bh_a k → 48 ≤ c → c ≤ 51 → π.1 c i = ν.1 c i) (hf2 : π.1 52 = ν.1 52) (hl : bw_lg π (bh_a k) (st k) S') : bwL (bh_st k st S') (bh_k k) π := by
  obtain ⟨h1, h2, h3, h4⟩ := h
  have ha : bh_a k < 100 := bh_a100
  rw [bh_ka h1]
  refine ⟨by omega, h25.trans hn.1, fun i hi => ?_, fun i hi => ?_⟩
  · by_cases hi' : i = bh_a k + 1
    · rw [hi', bh_stl h1]; exact hS'
    · rw [bh_sti st S' (by omega)]
      refine h3 _ ?_
      by_cases hi2 : i < bh_a k
      · have := bh_ilt h1 hi2
        omega
      · rw [show i = bh_a k by omega, bh_iin h1]
        exact Nat.le_refl _
  · by_cases hi' : i = bh_a k
    · rw [hi', bh_stl h1, bh_sti st S' (Nat.le_refl _), bh_iin h1]
      exact hl
    · have hlt := bh_ilt h1 (show i < bh_a k by omega)
      have hq := hn.2.2.2.2.1 i (by omega)
      rw [bh_sti st S' (by omega), bh_sti st S' (by omega), bh_i1]
      refine lg_move (h3 _ (by omega)) (h4 _ hlt) ?_ ?_ ?_ ?_ ?_
      · rw [hf _ _ (by omega) (by omega) (by omega)]; exact hq.1
      · rw [hf _ _ (by omega) (by omega) (by omega)]; exact hq.2.1
      · rw [hf _ _ (by omega) (by omega) (by omega)]; exact hq.2.2.1
      · rw [hf _ _ (by omega) (by omega) (by omega)]; exact hq.2.2.2.1
      · intro q hq'
        rw [hf2]; exact hq.2.2.2.2 q hq'
