/-! PURE: the acts of the reference. -/
theorem aA_known {b : Nat} {S : bwS} {x : Nat} (p q : Option Nat) {μ : bwM} (hR : bwA b S μ) : bwA b (bo_known x p q S) (bw_si (bw_si μ (b + 6) x (bo_I p)) (b + 7) x (bo_I q)) := by
  refine ⟨fun y hy => ?_, fun y k hk hy => ?_, fun y r v hy hr hv => ?_, fun y v hy hv => ?_, fun o' y v ho hy hv => ?_⟩
  · have h0 := hR.1 y hy
    rw [bq_sin (o' := b + 1) _ _ (by omega), bq_sin (o' := b + 1) _ _ (by omega), bq_sin (o' := b + 2) _ _ (by omega), bq_sin (o' := b + 2) _ _ (by omega), bq_sin (o' := b + 3) _ _ (by omega), bq_sin (o' := b + 3) _ _ (by omega)]
    refine ⟨h0.1, h0.2.1, h0.2.2.1, ?_⟩
    show _ = bo_I (bp_up (gS S) x p y) ∧ _ = bo_I (bp_up (gD S) x q y)
    by_cases hyx : y = x
    · subst hyx
      rw [bp_up_eq, bp_up_eq]
      exact ⟨by rw [bq_sin _ _ (by omega), bq_sie], by rw [bq_sie]⟩
    · rw [bp_up_ne _ hyx, bp_up_ne _ hyx, bq_sin _ _ (by omega), bq_sin _ _ (by omega), bq_sin _ _ (by omega), bq_sin _ _ (by omega)]
      exact h0.2.2.2
  · rw [bq_sin _ _ (by omega), bq_sin _ _ (by omega)]
    exact hR.2.1 y k hk hy
  · rw [bq_sin _ _ (by omega), bq_sin _ _ (by omega)]
    exact hR.2.2.1 y r v hy hr hv
  · rw [bq_sin _ _ (by omega), bq_sin _ _ (by omega)]
    exact hR.2.2.2.1 y v hy hv
  · rw [bq_sin _ _ (by omega), bq_sin _ _ (by omega)]
    exact hR.2.2.2.2 o' y v ho hy hv
theorem aA_weight {b : Nat} {S : bwS} {x r v k : Nat} (hS : bwOK S) (hx : x < gN S) (hr : r < g_rows S x) (hv : v < gV S x) {μ : bwM} (hR : bwA b S μ) : bwA b (bo_weight x r v k S) (bw_si μ (b + 5) (256 * x + 4 * r + v) (nI k)) := by
  have h4 := ok_v4 hS hx
  have h64 := (g_rows_pos hS hx).2
  refine ⟨fun y hy => ?_, fun y i hi hy => ?_, fun y q u hy hq hu => ?_, fun y u hy hu => ?_, fun o y u ho hy hu => ?_⟩
  · rw [bq_sin _ _ (by omega), bq_sin _ _ (by omega), bq_sin _ _ (by omega), bq_sin _ _ (by omega), bq_sin _ _ (by omega)]
    exact hR.1 y hy
  · rw [bq_sin _ _ (by omega)]
    exact hR.2.1 y i hi hy
  · have hy4 : gV S y ≤ 4 := ok_v4 hS hy
    have hy64 : g_rows S y ≤ 64 := (g_rows_pos hS hy).2
    have hq' : q < g_rows S y := hq
    have hu' : u < gV S y := hu
    show _ = nI (bp_up (gW S) x (bp_up (gW S x) r (bp_up (gW S x r) v k)) y q u)
    by_cases hyx : y = x
    · subst hyx
      rw [bp_up_eq]
      by_cases hqr : q = r
      · subst hqr
        rw [bp_up_eq]
        by_cases huv : u = v
        · subst huv
          rw [bp_up_eq, bq_sie]
        · rw [bp_up_ne _ huv, bq_sin _ _ (by omega), ra_w hR hy hq hu]
      · rw [bp_up_ne _ hqr, bq_sin _ _ (by omega), ra_w hR hy hq hu]
    · rw [bp_up_ne _ hyx, bq_sin _ _ (by omega), ra_w hR hy hq hu]
  · rw [bq_sin _ _ (by omega)]
    exact hR.2.2.2.1 y u hy hu
  · rw [bq_sin _ _ (by omega)]
    exact hR.2.2.2.2 o y u ho hy hu
theorem aA_force {b : Nat} {S : bwS} {x v k : Nat} (hS : bwOK S) (hx : x < gN S) (hv : v < gV S x) {μ : bwM} (hR : bwA b S μ) : bwA b (bo_force x v k S) (bw_si μ (b + 8) (4 * x + v) (nI k)) := by
  have h4 := ok_v4 hS hx
  refine ⟨fun y hy => ?_, fun y i hi hy => ?_, fun y q u hy hq hu => ?_, fun y u hy hu => ?_, fun o y u ho hy hu => ?_⟩
  · rw [bq_sin _ _ (by omega), bq_sin _ _ (by omega), bq_sin _ _ (by omega), bq_sin _ _ (by omega), bq_sin _ _ (by omega)]
    exact hR.1 y hy
  · rw [bq_sin _ _ (by omega)]
    exact hR.2.1 y i hi hy
  · rw [bq_sin _ _ (by omega)]
    exact hR.2.2.1 y q u hy hq hu
  · have hy4 : gV S y ≤ 4 := ok_v4 hS hy
    have hu' : u < gV S y := hu
    show _ = nI (bp_up (gF S) x (bp_up (gF S x) v k) y u)
    by_cases hyx : y = x
    · subst hyx
      rw [bp_up_eq]
      by_cases huv : u = v
      · subst huv
        rw [bp_up_eq, bq_sie]
      · rw [bp_up_ne _ huv, bq_sin _ _ (by omega), ra_f hR hy hu]
    · rw [bp_up_ne _ hyx, bq_sin _ _ (by omega), ra_f hR hy hu]
  · rw [bq_sin _ _ (by omega)]
    exact hR.2.2.2.2 o y u ho hy hu
theorem aA_worth {b : Nat} {S : bwS} {o x v : Nat} {k : Int32} (hS : bwOK S) (hx : x < gN S) (hv : v < gV S x) {μ : bwM} (hR : bwA b S μ) : bwA b (bo_worth o x v k S) (bw_si μ (b + 9) (48 * o + 4 * x + v) k) := by
  have h4 := ok_v4 hS hx
  have hn := ok_n hS
  refine ⟨fun y hy => ?_, fun y i hi hy => ?_, fun y q u hy hq hu => ?_, fun y u hy hu => ?_, fun p y u hp hy hu => ?_⟩
  · rw [bq_sin _ _ (by omega), bq_sin _ _ (by omega), bq_sin _ _ (by omega), bq_sin _ _ (by omega), bq_sin _ _ (by omega)]
    exact hR.1 y hy
  · rw [bq_sin _ _ (by omega)]
    exact hR.2.1 y i hi hy
  · rw [bq_sin _ _ (by omega)]
    exact hR.2.2.1 y q u hy hq hu
  · rw [bq_sin _ _ (by omega)]
    exact hR.2.2.2.1 y u hy hu
  · have hy4 : gV S y ≤ 4 := ok_v4 hS hy
    have hu' : u < gV S y := hu
    have hyn : y < gN S := hy
    show _ = bp_up (gU S) o (bp_up (gU S o) x (bp_up (gU S o x) v k)) p y u
    by_cases hpo : p = o
    · subst hpo
      rw [bp_up_eq]
      by_cases hyx : y = x
      · subst hyx
        rw [bp_up_eq]
        by_cases huv : u = v
        · subst huv
          rw [bp_up_eq, bq_sie]
        · rw [bp_up_ne _ huv, bq_sin _ _ (by omega), ra_u hR hp hy hu]
      · rw [bp_up_ne _ hyx, bq_sin _ _ (by omega), ra_u hR hp hy hu]
    · rw [bp_up_ne _ hpo, bq_sin _ _ (by omega), ra_u hR hp hy hu]
/-- what a call on the reference leaves alone -/
def bw_fM (μ ν : bwM) : Prop := ν.2 = μ.2 ∧ ν.1 30 18 = μ.1 30 18 ∧ (∀ c, c < 30 ∨ c = 42 ∨ 52 < c → ν.1 c = μ.1 c)
theorem nt_r {k : Nat} {x1 x2 : Int32} {S : bwS} {μ ν : bwM} (hR : bwR' S μ) (h : bw_nt k x1 x2 μ ν) : bwR' S ν := fr_r hR (fun i hi hi' => h.2.2.2.1 _ (by omega) (by omega)) (h.2.1 1 (by omega)) (h.2.1 10 (by omega))
theorem nt_f {k : Nat} {x1 x2 : Int32} {μ ν : bwM} (h : bw_nt k x1 x2 μ ν) : bw_fM μ ν := ⟨h.2.2.1, h.2.1 18 (by omega), fun c hc => h.2.2.2.1 c (by omega) (by omega)⟩
theorem sM_weight (d : Nat) {st : Nat → bwS} {k : Nat} {μ : bwM} (hL : bwL st k μ) (hR : bwR' (st k) μ) {x r v w : Nat} (hx : x < gN (st k)) (hr : r < g_rows (st k) x) (hv : v < gV (st k) x) (hw : w ≤ gT (st k) x) : ∃ ν, bw_call (d + 4) 95 [.inr (.inr 30), .inl (nI x), .inl (nI r), .inl (nI v), .inl (nI w)] μ = some (some (.inl (nI (gW (st k) x r v))), ν) ∧ bwR' (bo_weight x r v w (st k)) ν ∧ bwL (bh_st k st (bo_weight x r v w (st k))) (bh_k k) ν ∧ bw_fM μ ν := by
  have hS : bwOK (st k) := hL.2.2.1 k (Nat.le_refl _)
  have hn := ok_n hS
  have h4 := ok_v4 hS hx
  have h64 := (g_rows_pos hS hx).2
  have ht := ok_t100 hS hx
  have ha : bh_a k < 100 := bh_a100
  obtain ⟨ν, e1, e2⟩ := sM_note_o (d + 2) 2 (nI (256 * x + 4 * r + v)) (by decide) (by decide) hL.1 μ hL.2.1
  have hRν := nt_r hR e2
  have hfν := nt_f e2
  refine ⟨bw_si (bw_si ν 50 (bh_a k) (nI (gW (st k) x r v))) 35 (256 * x + 4 * r + v) (nI w), ?_, ⟨aA_weight hS hx hr hv (fr_a hRν.1 (fun i hi => ?_)), ?_, ?_⟩, bwL_note hL e2 (ok_weight hS hw) ?_ (fun c i hi hc hc' => ?_) ?_ (Or.inr (Or.inl ⟨x, r, v, w, hx, hr, hv, ?_, ?_, ?_, rfl⟩)), hfν.1, ?_, fun c hc => ?_⟩
  · rw [qX4_weight, sM_isW _ hS hR hx hr hv, bq_I, if_neg bq_ne10, if_neg (nI_pos (by omega)), if_pos ((bq_ii (by omega)).2 (by omega)), nI_clamp (by omega), rm_t hR hx, if_pos (nI_le hw (by omega)), qX4_weight_28, bq_256, e1, bq_V, qX4_weight_48, if_pos ((bq_ii (by omega)).2 (by omega)), e2.1, nI_pred, if_pos ((bq_ii (by omega)).2 ha), nI_clamp (n := bh_a k) (by omega), nI_clamp (by omega), rm_w hRν hx hr hv, qX4_weight_70, if_pos ((bq_ii (by omega)).2 (by omega)), nI_clamp (by omega)]
  · funext j; exact bq_sin _ _ (by omega)
  · rw [bq_sin _ _ (by omega), bq_sin _ _ (by omega)]; exact hRν.2.1
  · rw [bq_sin _ _ (by omega), bq_sin _ _ (by omega)]; exact hRν.2.2
  · rw [bq_sin _ _ (by omega), bq_sin _ _ (by omega)]
  · rw [bq_sin _ _ (by omega), bq_sin _ _ (by omega)]
  · funext j; rw [bq_sin _ _ (by omega), bq_sin _ _ (by omega)]
  · rw [bq_sin _ _ (by omega), bq_sin _ _ (by omega)]; exact e2.2.2.2.2.2.1
  · rw [bq_sin _ _ (by omega), bq_sin _ _ (by omega)]; exact e2.2.2.2.2.2.2
  · rw [bq_sin _ _ (by omega), bq_sie]
  · rw [bq_sin _ _ (by omega), bq_sin _ _ (by omega)]; exact hfν.2.1
  · rw [← hfν.2.2 c hc]; funext j; rw [bq_sin _ _ (by omega), bq_sin _ _ (by omega)]
theorem sM_force (d : Nat) {st : Nat → bwS} {k : Nat} {μ : bwM} (hL : bwL st k μ) (hR : bwR' (st k) μ) {x v f : Nat} (hx : x < gN (st k)) (hv : v < gV (st k) x) (hf : f ≤ 3) : ∃ ν, bw_call (d + 3) 106 [.inr (.inr 30), .inl (nI x), .inl (nI v), .inl (nI f)] μ = some (some (.inl (nI (gF (st k) x v))), ν) ∧ bwR' (bo_force x v f (st k)) ν ∧ bwL (bh_st k st (bo_force x v f (st k))) (bh_k k) ν ∧ bw_fM μ ν := by
  have hS : bwOK (st k) := hL.2.2.1 k (Nat.le_refl _)
  have hn := ok_n hS
  have h4 := ok_v4 hS hx
  have ha : bh_a k < 100 := bh_a100
  obtain ⟨ν, e1, e2⟩ := sM_note_o (d + 1) 4 (nI (4 * x + v)) (by decide) (by decide) hL.1 μ hL.2.1
  have hRν := nt_r hR e2
  have hfν := nt_f e2
  refine ⟨bw_si (bw_si ν 50 (bh_a k) (nI (gF (st k) x v))) 38 (4 * x + v) (nI f), ?_, ⟨aA_force hS hx hv (fr_a hRν.1 (fun i hi => ?_)), ?_, ?_⟩, bwL_note hL e2 (ok_force hS hf) ?_ (fun c i hi hc hc' => ?_) ?_ (Or.inr (Or.inr (Or.inr (Or.inl ⟨x, v, f, hx, hv, ?_, ?_, ?_, rfl⟩)))), hfν.1, ?_, fun c hc => ?_⟩
  · rw [qX4_force, sM_isV _ hS hR hx hv, bq_I, if_neg bq_ne10, if_neg (nI_pos (by omega)), if_pos (show nI f ≤ (3 : Int32) from nI_le (b := 3) hf (by omega)), bq_4, e1, bq_V, qX4_force_30, bq_4]
    simp only [bq_it (show 4 * x + v < 48 by omega) (by decide)]
    rw [e2.1, nI_pred, if_pos ((bq_ii (by omega)).2 ha), nI_clamp (n := bh_a k) (by omega), nI_clamp (by omega), rm_f hRν hx hv]
  · funext j; exact bq_sin _ _ (by omega)
  · rw [bq_sin _ _ (by omega), bq_sin _ _ (by omega)]; exact hRν.2.1
  · rw [bq_sin _ _ (by omega), bq_sin _ _ (by omega)]; exact hRν.2.2
  · rw [bq_sin _ _ (by omega), bq_sin _ _ (by omega)]
  · rw [bq_sin _ _ (by omega), bq_sin _ _ (by omega)]
  · funext j; rw [bq_sin _ _ (by omega), bq_sin _ _ (by omega)]
  · rw [bq_sin _ _ (by omega), bq_sin _ _ (by omega)]; exact e2.2.2.2.2.2.1
  · rw [bq_sin _ _ (by omega), bq_sin _ _ (by omega)]; exact e2.2.2.2.2.2.2
  · rw [bq_sin _ _ (by omega), bq_sie]
  · rw [bq_sin _ _ (by omega), bq_sin _ _ (by omega)]; exact hfν.2.1
  · rw [← hfν.2.2 c hc]; funext j; rw [bq_sin _ _ (by omega), bq_sin _ _ (by omega)]
theorem sM_worth (d : Nat) {st : Nat → bwS} {k : Nat} {μ : bwM} (hL : bwL st k μ) (hR : bwR' (st k) μ) {o x v : Nat} {u : Int32} (ho : o < gO (st k)) (hx : x < gN (st k)) (hv : v < gV (st k) x) (h1 : ¬ u < (-500 : Int32)) (h2 : u ≤ (500 : Int32)) (hu1 : -500 ≤ u.toInt) (hu2 : u.toInt ≤ 500) : ∃ ν, bw_call (d + 3) 130 [.inr (.inr 30), .inl (nI o), .inl (nI x), .inl (nI v), .inl u] μ = some (some (.inl (gU (st k) o x v)), ν) ∧ bwR' (bo_worth o x v u (st k)) ν ∧ bwL (bh_st k st (bo_worth o x v u (st k))) (bh_k k) ν ∧ bw_fM μ ν := by
  have hS : bwOK (st k) := hL.2.2.1 k (Nat.le_refl _)
  have hn := ok_n hS
  have hno := ok_o hS
  have h4 := ok_v4 hS hx
  have ha : bh_a k < 100 := bh_a100
  obtain ⟨ν, e1, e2⟩ := sM_note_o (d + 1) 6 (nI (48 * o + 4 * x + v)) (by decide) (by decide) hL.1 μ hL.2.1
  have hRν := nt_r hR e2
  have hfν := nt_f e2
  refine ⟨bw_si (bw_si ν 50 (bh_a k) (gU (st k) o x v)) 39 (48 * o + 4 * x + v) u, ?_, ⟨aA_worth hS hx hv (fr_a hRν.1 (fun i hi => ?_)), ?_, ?_⟩, bwL_note hL e2 (ok_worth hS ho hx hv hu1 hu2) ?_ (fun c i hi hc hc' => ?_) ?_ (Or.inr (Or.inr (Or.inr (Or.inr (Or.inr ⟨o, x, v, u, ho, hx, hv, ?_, ?_, ?_, rfl⟩))))), hfν.1, ?_, fun c hc => ?_⟩
  · rw [qX4_worth, sM_isO _ hS hR ho, bq_I, if_neg bq_ne10, sM_isV _ hS hR hx hv, bq_I, if_neg bq_ne10, if_neg h1, qX4_worth_25, if_pos h2, bq_48, qX4_worth_49, e1, bq_V, if_pos ((bq_ii (by omega)).2 (by omega)), e2.1, nI_pred, if_pos ((bq_ii (by omega)).2 ha), nI_clamp (n := bh_a k) (by omega), nI_clamp (by omega), rm_u hRν ho hx hv, qX4_worth_79, if_pos ((bq_ii (by omega)).2 (by omega)), nI_clamp (by omega)]
  · funext j; exact bq_sin _ _ (by omega)
  · rw [bq_sin _ _ (by omega), bq_sin _ _ (by omega)]; exact hRν.2.1
  · rw [bq_sin _ _ (by omega), bq_sin _ _ (by omega)]; exact hRν.2.2
  · rw [bq_sin _ _ (by omega), bq_sin _ _ (by omega)]
  · rw [bq_sin _ _ (by omega), bq_sin _ _ (by omega)]
  · funext j; rw [bq_sin _ _ (by omega), bq_sin _ _ (by omega)]
  · rw [bq_sin _ _ (by omega), bq_sin _ _ (by omega)]; exact e2.2.2.2.2.2.1
  · rw [bq_sin _ _ (by omega), bq_sin _ _ (by omega)]; exact e2.2.2.2.2.2.2
  · rw [bq_sin _ _ (by omega), bq_sie]
  · rw [bq_sin _ _ (by omega), bq_sin _ _ (by omega)]; exact hfν.2.1
  · rw [← hfν.2.2 c hc]; funext j; rw [bq_sin _ _ (by omega), bq_sin _ _ (by omega)]
theorem sM_becomes (d : Nat) {st : Nat → bwS} {k : Nat} {μ : bwM} (hL : bwL st k μ) (hR : bwR' (st k) μ) {x : Nat} {s u : Option Nat} (hx : x < gN (st k)) (hs : ∀ v, s = some v → v < gV (st k) x) (hu : ∀ v, u = some v → v < gV (st k) x) (hsu : s = none ∨ u = none) : ∃ ν, bw_call (d + 2) 103 [.inr (.inr 30), .inl (nI x), .inl (bo_I s), .inl (bo_I u)] μ = some (some (.inl 1), ν) ∧ bwR' (bo_known x s u (st k)) ν ∧ bwL (bh_st k st (bo_known x s u (st k))) (bh_k k) ν ∧ bw_fM μ ν := by
  have hS : bwOK (st k) := hL.2.2.1 k (Nat.le_refl _)
  have hn := ok_n hS
  have ha : bh_a k < 100 := bh_a100
  obtain ⟨ν, e1, e2⟩ := sM_note_o d 3 (nI x) (by decide) (by decide) hL.1 μ hL.2.1
  have hRν := nt_r hR e2
  have hfν := nt_f e2
  refine ⟨bw_si (bw_si (bw_si (bw_si ν 50 (bh_a k) (bo_I (gS (st k) x))) 51 (bh_a k) (bo_I (gD (st k) x))) 36 x (bo_I s)) 37 x (bo_I u), ?_, ⟨aA_known s u (fr_a hRν.1 (fun i hi => ?_)), ?_, ?_⟩, bwL_note hL e2 (ok_known hS hs hu hsu) ?_ (fun c i hi hc hc' => ?_) ?_ (Or.inr (Or.inr (Or.inl ⟨x, s, u, hx, ?_, ?_, ?_, ?_, rfl⟩))), hfν.1, ?_, fun c hc => ?_⟩
  · rw [qX4_becomes, e1, bq_V]
    simp only [bq_it (show x < 12 by omega) (by decide), e2.1, nI_pred, bq_it ha (by decide)]
    rw [nI_clamp (n := bh_a k) (by omega), nI_clamp (n := x) (by omega), bq_sin (o' := 30) _ _ (by omega), bq_sin (o' := 37) _ _ (by omega), e2.1, nI_pred, if_pos ((bq_ii (by omega)).2 ha), nI_clamp (n := bh_a k) (by omega), rm_s hRν hx, rm_d hRν hx, qX4_becomes_47, if_pos ((bq_ii (by omega)).2 (by omega)), nI_clamp (by omega)]
  · funext j; rw [bq_sin _ _ (by omega), bq_sin _ _ (by omega)]
  · rw [bq_sin _ _ (by omega), bq_sin _ _ (by omega), bq_sin _ _ (by omega), bq_sin _ _ (by omega)]; exact hRν.2.1
  · rw [bq_sin _ _ (by omega), bq_sin _ _ (by omega), bq_sin _ _ (by omega), bq_sin _ _ (by omega)]; exact hRν.2.2
  · rw [bq_sin _ _ (by omega), bq_sin _ _ (by omega), bq_sin _ _ (by omega), bq_sin _ _ (by omega)]
  · rw [bq_sin _ _ (by omega), bq_sin _ _ (by omega), bq_sin _ _ (by omega), bq_sin _ _ (by omega)]
  · funext j; rw [bq_sin _ _ (by omega), bq_sin _ _ (by omega), bq_sin _ _ (by omega), bq_sin _ _ (by omega)]
  · rw [bq_sin _ _ (by omega), bq_sin _ _ (by omega), bq_sin _ _ (by omega), bq_sin _ _ (by omega)]; exact e2.2.2.2.2.2.1
  · rw [bq_sin _ _ (by omega), bq_sin _ _ (by omega), bq_sin _ _ (by omega), bq_sin _ _ (by omega)]; exact e2.2.2.2.2.2.2
  · rw [bq_sin _ _ (by omega), bq_sin _ _ (by omega), bq_sin _ _ (by omega), bq_sie]
  · rw [bq_sin _ _ (by omega), bq_sin _ _ (by omega), bq_sie]
  · rw [bq_sin _ _ (by omega), bq_sin _ _ (by omega), bq_sin _ _ (by omega), bq_sin _ _ (by omega)]; exact hfν.2.1
  · rw [← hfν.2.2 c hc]; funext j; rw [bq_sin _ _ (by omega), bq_sin _ _ (by omega), bq_sin _ _ (by omega), bq_sin _ _ (by omega)]
