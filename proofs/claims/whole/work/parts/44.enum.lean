/-! PURE: the reference goes through all wholes, one behind the other. -/
def bp_nxt (V : Nat → Nat) : Nat → (Nat → Nat) → Option (Nat → Nat)
  | 0, _ => none
  | k + 1, c => if c k = V k - 1 then bp_nxt V k (bp_up c k 0) else some (bp_up c k (c k + 1))
def bp_pt (N : (Nat → Nat) → Option (Nat → Nat)) : (Nat → Nat) → List (Nat → Nat) → (Nat → Nat) → Prop
  | a, [], b => a = b
  | a, x :: t, b => N a = some x ∧ bp_pt N x t b
theorem pt_app (N : (Nat → Nat) → Option (Nat → Nat)) (s : List (Nat → Nat)) (a b a' b' : Nat → Nat) (s' : List (Nat → Nat)) (h : bp_pt N a s b) (hn : N b = some a') (h' : bp_pt N a' s' b') : bp_pt N a (s ++ a' :: s') b' := by
  induction s generalizing a with
  | nil =>
    have : a = b := h
    rw [this]
    exact ⟨hn, h'⟩
  | cons x t ih => exact ⟨h.1, ih x h.2⟩
/-- places from j on at their greatest -/
def bp_mx (V : Nat → Nat) (n j : Nat) (c : Nat → Nat) : Nat → Nat := fun y => if j ≤ y ∧ y < n then V y - 1 else c y
theorem nxt_mx (V : Nat → Nat) (n j : Nat) (hj : j ≤ n) (c : Nat → Nat) (hc : ∀ y, j ≤ y → y < n → c y = 0) : bp_nxt V n (bp_mx V n j c) = bp_nxt V j c := by
  have key : ∀ k, j ≤ k → k ≤ n → bp_nxt V k (fun y => if j ≤ y ∧ y < k then V y - 1 else c y) = bp_nxt V j c := by
    intro k
    induction k with
    | zero =>
      intro h1 _
      have : j = 0 := by omega
      subst this
      rfl
    | succ k ih =>
      intro h1 h2
      by_cases hjk : j = k + 1
      · subst hjk
        congr 1
        funext y
        exact if_neg (by omega)
      · rw [bp_nxt, if_pos (if_pos (by omega))]
        rw [← ih (by omega) (by omega)]
        congr 1
        funext y
        by_cases hy : y = k
        · rw [hy, bp_up_eq, if_neg (by omega), hc k (by omega) (by omega)]
        · rw [bp_up_ne _ hy]
          by_cases h : j ≤ y ∧ y < k
          · rw [if_pos h, if_pos (by omega)]
          · rw [if_neg h, if_neg (by omega)]
  exact key n hj (Nat.le_refl _)
theorem en_path (V : Nat → Nat) (n : Nat) (hV : ∀ x, x < n → 2 ≤ V x) (k j : Nat) (hjk : j + k = n) (c : Nat → Nat) (hc : ∀ y, j ≤ y → y < n → c y = 0) : ∃ t, bp_en V (fun _ _ => true) (List.range' j k) c = c :: t ∧ bp_pt (bp_nxt V n) c t (bp_mx V n j c) := by
  induction k generalizing j c with
  | zero =>
    refine ⟨[], rfl, ?_⟩
    show c = bp_mx V n j c
    funext y
    exact (if_neg (by omega)).symm
  | succ k ih =>
    have hj : j < n := by omega
    have h2 := hV j hj
    rw [List.range'_succ, bp_en]
    have key : ∀ m, 1 ≤ m → m ≤ V j → ∃ t, (List.range m).flatMap (fun v => if (fun (_ : Nat) (_ : Nat → Nat) => true) j (bp_up c j v) = true then bp_en V (fun _ _ => true) (List.range' (j + 1) k) (bp_up c j v) else []) = c :: t ∧ bp_pt (bp_nxt V n) c t (bp_mx V n (j + 1) (bp_up c j (m - 1))) := by
      intro m
      induction m with
      | zero => intro h; omega
      | succ m ihm =>
        intro _ hm
        obtain ⟨t', e1, e2⟩ := ih (j + 1) (by omega) (bp_up c j m) (fun y h1 h2 => by rw [bp_up_ne _ (by omega)]; exact hc y (by omega) h2)
        by_cases hm0 : m = 0
        · subst hm0
          have hcc : bp_up c j 0 = c := by
            funext y
            by_cases hy : y = j
            · rw [hy, bp_up_eq, hc j (by omega) hj]
            · rw [bp_up_ne _ hy]
          rw [hcc] at e1 e2
          refine ⟨t', ?_, ?_⟩
          · show List.flatMap _ [0] = _
            rw [List.flatMap_cons, List.flatMap_nil, List.append_nil, if_pos rfl, hcc, e1]
          · show bp_pt _ c t' (bp_mx V n (j + 1) (bp_up c j 0))
            rw [hcc]; exact e2
        · obtain ⟨t, f1, f2⟩ := ihm (by omega) (by omega)
          refine ⟨t ++ bp_up c j m :: t', ?_, ?_⟩
          · rw [List.range_succ, List.flatMap_append, f1, List.flatMap_cons, List.flatMap_nil, List.append_nil, if_pos rfl, e1]
            rfl
          · refine pt_app _ t c _ (bp_up c j m) _ t' f2 ?_ e2
            rw [nxt_mx V n (j + 1) (by omega) (bp_up c j (m - 1)) (fun y h1 h2 => by rw [bp_up_ne _ (by omega)]; exact hc y (by omega) h2), bp_nxt, if_neg (by rw [bp_up_eq]; omega)]
            congr 1
            funext y
            by_cases hy : y = j
            · rw [hy, bp_up_eq, bp_up_eq, bp_up_eq]; omega
            · rw [bp_up_ne _ hy, bp_up_ne _ hy, bp_up_ne _ hy]
    obtain ⟨t, e1, e2⟩ := key (V j) (by omega) (Nat.le_refl _)
    refine ⟨t, e1, ?_⟩
    have : bp_mx V n (j + 1) (bp_up c j (V j - 1)) = bp_mx V n j c := by
      funext y
      unfold bp_mx
      by_cases hy : y = j
      · rw [hy, if_neg (by omega), bp_up_eq, if_pos (by omega)]
      · rw [bp_up_ne _ hy]
        by_cases h : j + 1 ≤ y ∧ y < n
        · rw [if_pos h, if_pos (by omega)]
        · rw [if_neg h, if_neg (by omega)]
    rw [← this]
    exact e2
/-- all wholes: the first, then each one's next, the last has none -/
theorem g_all_path {S : bwS} (hS : bwOK S) : ∃ t b, g_all S = (fun _ => 0) :: t ∧ bp_pt (bp_nxt (gV S) (gN S)) (fun _ => 0) t b ∧ bp_nxt (gV S) (gN S) b = none := by
  obtain ⟨t, e1, e2⟩ := en_path (gV S) (gN S) (fun x hx => ok_v2 hS hx) (gN S) 0 (by omega) (fun _ => 0) (fun _ _ _ => rfl)
  refine ⟨t, _, ?_, e2, ?_⟩
  · unfold g_all
    rw [List.range_eq_range']; exact e1
  · rw [nxt_mx (gV S) (gN S) 0 (by omega) (fun _ => 0) (fun _ _ _ => rfl)]
    rfl
/-- what the going through of wholes leaves alone -/
def bw_fE (μ ν : bwM) : Prop := (∀ c, c ≠ 41 → ν.1 c = μ.1 c) ∧ (∀ c j, ¬ (c = 30 ∧ j = 14) → ν.2 c j = μ.2 c j)
theorem fE_refl (μ : bwM) : bw_fE μ μ := ⟨fun _ _ => rfl, fun _ _ _ => rfl⟩
theorem fE_trans {μ ν π : bwM} (h : bw_fE μ ν) (h' : bw_fE ν π) : bw_fE μ π := ⟨fun c hc => (h'.1 c hc).trans (h.1 c hc), fun c j hc => (h'.2 c j hc).trans (h.2 c j hc)⟩
theorem fE_r {S : bwS} {μ ν : bwM} (h : bw_fE μ ν) (hR : bwR' S μ) : bwR' S ν := fr_r hR (fun i hi _ => h.1 _ (by omega)) (by rw [h.1 30 (by omega)]) (by rw [h.1 30 (by omega)])
def bw_wh (S : bwS) (μ : bwM) (c : Nat → Nat) : Prop := ∀ x, x < gN S → μ.1 41 x = nI (c x)
theorem sM_first_go (d : Nat) {S : bwS} (hS : bwOK S) (k : Nat) (hk : k ≤ gN S) (μ : bwM) (hR : bwR' S μ) (h : ∀ x, x < k → μ.1 41 x = nI 0) : ∃ ν, eX4_firstWhole d 2 [some (.inr (.inr 30)), some (.inl (nI k))] [] μ = some (none, ν) ∧ bw_wh S ν (fun _ => 0) ∧ bw_fE μ ν := by
  have hn := ok_n hS
  induction hj : gN S - k generalizing k μ with
  | zero =>
    have : k = gN S := by omega
    subst this
    exact ⟨μ, by rw [qX4_firstWhole_2, rr_n hR, if_pos (nI_le (by omega) (by omega))], h, fE_refl μ⟩
  | succ j ih =>
    have hf : bw_fE μ (bw_si μ 41 k 0) := ⟨fun c hc => funext (fun j => bq_sin _ _ (by omega)), fun _ _ _ => rfl⟩
    obtain ⟨ν, e1, e2, e3⟩ := ih (k + 1) (by omega) (bw_si μ 41 k 0) (fE_r hf hR) (fun x hx => by
      by_cases hxk : x = k
      · rw [hxk, bq_sie]; rfl
      · rw [bq_sin _ _ (by omega)]; exact h x (by omega)) (by omega)
    refine ⟨ν, ?_, e2, fE_trans hf e3⟩
    rw [qX4_firstWhole_2, rr_n hR, if_neg (nI_ge (by omega) (by omega)), if_pos ((bq_ii (by omega)).2 (by omega)), nI_clamp (by omega), nI_1]
    exact e1
theorem sM_first (d : Nat) {S : bwS} (hS : bwOK S) {μ : bwM} (hR : bwR' S μ) : ∃ ν, bw_call (d + 1) 107 [.inr (.inr 30)] μ = some (none, ν) ∧ bw_wh S ν (fun _ => 0) ∧ bw_fE μ ν := by
  obtain ⟨ν, e1, e2⟩ := sM_first_go d hS 0 (by omega) μ hR (fun x hx => by omega)
  exact ⟨ν, by rw [qX4_firstWhole]; exact e1, e2⟩
theorem sM_next_go (d : Nat) {S : bwS} (hS : bwOK S) (k : Nat) (hk : k ≤ gN S) (c : Nat → Nat) (hc4 : ∀ x, x < gN S → c x < 4) (μ : bwM) (hR : bwR' S μ) (h : bw_wh S μ c) : ∃ ν, bw_fE μ ν ∧ ((bp_nxt (gV S) k c = none ∧ eX4_nextWhole d 7 [some (.inr (.inr 30)), some (.inl (nI k - 1))] [] μ = some (some (.inl 0), ν)) ∨ (∃ c', bp_nxt (gV S) k c = some c' ∧ bw_wh S ν c' ∧ eX4_nextWhole d 7 [some (.inr (.inr 30)), some (.inl (nI k - 1))] [] μ = some (some (.inl 1), ν))) := by
  have hn := ok_n hS
  induction k generalizing c μ with
  | zero =>
    refine ⟨μ, fE_refl μ, Or.inl ⟨rfl, ?_⟩⟩
    rw [qX4_nextWhole_7, if_pos (by decide), qX4_nextWhole_41, if_neg (by decide), bq_0]
  | succ k ih =>
    have hk' : k < gN S := by omega
    have h2 := ok_v2 hS hk'
    have h4 := ok_v4 hS hk'
    have hck := hc4 k hk'
    rw [nI_pred, qX4_nextWhole_7, if_neg (nI_pos (by omega))]
    simp only [bq_it (show k < 12 by omega) (by decide)]
    rw [nI_clamp (by omega), h k hk', rm_v hR hk', show nI (gV S k) - (1 : Int32) = nI (gV S k - 1) from pk_sub (b := 1) (by omega), bp_nxt]
    by_cases he : c k = gV S k - 1
    · have hf : bw_fE μ (bw_si μ 41 k 0) := ⟨fun c hc => funext (fun j => bq_sin _ _ (by omega)), fun _ _ _ => rfl⟩
      rw [if_pos he, if_pos (show nI (c k) = nI (gV S k - 1) by rw [he]), show nI k + (-1) = nI k - 1 from (Int32.sub_eq_add_neg (nI k) 1).symm]
      obtain ⟨ν, e1, e2⟩ := ih (by omega) (bp_up c k 0) (fun x hx => by
        by_cases hxk : x = k
        · rw [hxk, bp_up_eq]; omega
        · rw [bp_up_ne _ hxk]; exact hc4 x hx) (bw_si μ 41 k 0) (fE_r hf hR) (fun x hx => by
        by_cases hxk : x = k
        · rw [hxk, bq_sie, bp_up_eq]; rfl
        · rw [bq_sin _ _ (by omega), bp_up_ne _ hxk]; exact h x hx)
      exact ⟨ν, fE_trans hf e1, e2⟩
    · rw [if_neg he, if_neg (show ¬ nI (c k) = nI (gV S k - 1) from fun hh => he ((nI_eq (by omega) (by omega)).1 hh)), qX4_nextWhole_41, if_pos (nI_pos' (by omega)), bq_1]
      simp only [bq_it (show k < 12 by omega) (by decide)]
      rw [nI_clamp (by omega), h k hk', nI_1]
      refine ⟨bw_si μ 41 k (nI (c k + 1)), ⟨fun c hc => funext (fun j => bq_sin _ _ (by omega)), fun _ _ _ => rfl⟩, Or.inr ⟨_, rfl, fun x hx => ?_, rfl⟩⟩
      by_cases hxk : x = k
      · rw [hxk, bq_sie, bp_up_eq]
      · rw [bq_sin _ _ (by omega), bp_up_ne _ hxk]; exact h x hx
theorem sM_next (d : Nat) {S : bwS} (hS : bwOK S) (c : Nat → Nat) (hc4 : ∀ x, x < gN S → c x < 4) {μ : bwM} (hR : bwR' S μ) (h : bw_wh S μ c) : ∃ ν, bw_fE μ ν ∧ ((bp_nxt (gV S) (gN S) c = none ∧ bw_call (d + 1) 108 [.inr (.inr 30)] μ = some (some (.inl 0), ν)) ∨ (∃ c', bp_nxt (gV S) (gN S) c = some c' ∧ bw_wh S ν c' ∧ bw_call (d + 1) 108 [.inr (.inr 30)] μ = some (some (.inl 1), ν))) := by
  obtain ⟨ν, e1, e2⟩ := sM_next_go d hS (gN S) (Nat.le_refl _) c hc4 μ hR h
  refine ⟨ν, e1, ?_⟩
  rw [qX4_nextWhole, rr_n hR]
  exact e2
