/-! PURE: reads of tables: soundness, weights, factors. -/
def bp_sum (f : Nat → Nat) (n : Nat) : Nat := match n with
  | 0 => 0
  | n + 1 => bp_sum f n + f n
theorem bp_sum_le (f : Nat → Nat) (B n : Nat) (h : ∀ v, v < n → f v ≤ B) : bp_sum f n ≤ n * B := by
  induction n with
  | zero => exact Nat.zero_le _
  | succ n ih =>
    have h1 := ih (fun v hv => h v (by omega))
    have h2 := h n (by omega)
    show bp_sum f n + f n ≤ _
    rw [Nat.succ_mul]
    omega
def g_st (S : bwS) (x : Nat) : Prop := ∀ r, r < g_rows S x → bp_sum (gW S x r) (gV S x) = gT S x
def g_sound (S : bwS) : Prop := 0 < gN S ∧ ∀ x, x < gN S → gD S x = none → g_st S x
theorem ok_sum {S : bwS} (hS : bwOK S) {x r : Nat} (hx : x < gN S) (hr : r < g_rows S x) (v : Nat) (hv : v ≤ gV S x) : bp_sum (gW S x r) v ≤ 400 := by
  have h4 := ok_v4 hS hx
  have ht := ok_t100 hS hx
  have h := bp_sum_le (gW S x r) 100 v (fun u hu => Nat.le_trans (ok_w hS hx hr (by omega)) ht)
  omega
theorem sW_st_in (d : Nat) {w : Nat} (hw : w = 2 ∨ w = 12) {S : bwS} {μ : bwM} (hS : bwOK S) (hR : bwC w S μ) {x : Nat} (hx : x < gN S) {r : Nat} (hr : r < g_rows S x) (v : Nat) (hv : v ≤ gV S x) : eX2_hasSoundTable (d + 1) 19 [some (.inr (.inr w)), some (.inl (nI x)), some (.inl (nI (g_rows S x))), some (.inl (nI r)), some (.inl (nI (bp_sum (gW S x r) v))), some (.inl (nI v))] [] μ = if bp_sum (gW S x r) (gV S x) = gT S x then eX2_hasSoundTable (d + 1) 8 [some (.inr (.inr w)), some (.inl (nI x)), some (.inl (nI (g_rows S x))), some (.inl (nI (r + 1))), some (.inl (nI (bp_sum (gW S x r) (gV S x)))), some (.inl (nI (gV S x)))] [] μ else some (some (.inl 0), μ) := by
  have hn := ok_n hS
  have h4 := ok_v4 hS hx
  have hr64 := (g_rows_pos hS hx).2
  induction hj : gV S x - v generalizing v with
  | zero =>
    have : v = gV S x := by omega
    subst this
    have hs := ok_sum hS hx hr (gV S x) (by omega)
    have ht := ok_t100 hS hx
    rw [qX2_hasSoundTable_19 _ hw, bq_0]
    simp only [bq_it (show x < 12 by omega) (by decide)]
    rw [nI_clamp (by omega), ra_v hR.1 hx, if_pos (nI_le (by omega) (by omega)), ra_t hR.1 hx, nI_1]
    by_cases he : bp_sum (gW S x r) (gV S x) = gT S x
    · rw [if_pos he, if_pos (by rw [he])]
    · rw [if_neg he, if_neg (fun h => he ((nI_eq (by omega) (by omega)).1 h))]
  | succ j ih =>
    rw [qX2_hasSoundTable_19 _ hw, bq_0]
    simp only [bq_it (show x < 12 by omega) (by decide)]
    rw [nI_clamp (by omega), ra_v hR.1 hx, if_neg (nI_ge (by omega) (by omega)), sB_weightSlot, bq_I, if_pos ((bq_ii (by omega)).2 (by omega)), nI_clamp (by omega), ra_w hR.1 hx hr (by omega), nI_add, nI_1]
    exact ih (v + 1) (by omega) (by omega)
theorem sW_st_go (d : Nat) {w : Nat} (hw : w = 2 ∨ w = 12) {S : bwS} {μ : bwM} (hS : bwOK S) (hR : bwC w S μ) {x : Nat} (hx : x < gN S) (r : Nat) (hr : r ≤ g_rows S x) (o4 o5 : Option bwV) (hp : ∀ q, q < r → bp_sum (gW S x q) (gV S x) = gT S x) : (g_st S x → eX2_hasSoundTable (d + 1) 8 [some (.inr (.inr w)), some (.inl (nI x)), some (.inl (nI (g_rows S x))), some (.inl (nI r)), o4, o5] [] μ = some (some (.inl 1), μ)) ∧ (¬ g_st S x → eX2_hasSoundTable (d + 1) 8 [some (.inr (.inr w)), some (.inl (nI x)), some (.inl (nI (g_rows S x))), some (.inl (nI r)), o4, o5] [] μ = some (some (.inl 0), μ)) := by
  have hr64 := (g_rows_pos hS hx).2
  induction hj : g_rows S x - r generalizing r o4 o5 with
  | zero =>
    have : r = g_rows S x := by omega
    subst this
    rw [qX2_hasSoundTable_8 _ hw, if_pos (nI_le (by omega) (by omega)), bq_1]
    exact ⟨fun _ => rfl, fun h => absurd hp h⟩
  | succ j ih =>
    have hin := sW_st_in d hw hS hR hx (r := r) (by omega) 0 (by omega)
    rw [qX2_hasSoundTable_8 _ hw, if_neg (nI_ge (by omega) (by omega))]
    by_cases he : bp_sum (gW S x r) (gV S x) = gT S x
    · rw [if_pos he] at hin
      have h2 := ih (r + 1) (by omega) (some (.inl (nI (bp_sum (gW S x r) (gV S x))))) (some (.inl (nI (gV S x)))) (fun q hq => by
        by_cases hqr : q = r
        · rw [hqr]; exact he
        · exact hp q (by omega)) (by omega)
      exact ⟨fun h => hin.trans (h2.1 h), fun h => hin.trans (h2.2 h)⟩
    · rw [if_neg he] at hin
      exact ⟨fun h => absurd (h r (by omega)) he, fun _ => hin⟩
theorem sW_st (d : Nat) {w : Nat} (hw : w = 2 ∨ w = 12) {S : bwS} {μ : bwM} (hS : bwOK S) (hR : bwC w S μ) {x : Nat} (hx : x < gN S) (h : g_st S x) : bw_call (d + 3) 29 [.inr (.inr w), .inl (nI x)] μ = some (some (.inl 1), μ) := by
  rw [qX2_hasSoundTable _ hw, sW_rows _ hw hS hR hx, bq_I]
  exact (sW_st_go (d + 1) hw hS hR hx 0 (by omega) none none (fun q hq => by omega)).1 h
theorem sW_nst (d : Nat) {w : Nat} (hw : w = 2 ∨ w = 12) {S : bwS} {μ : bwM} (hS : bwOK S) (hR : bwC w S μ) {x : Nat} (hx : x < gN S) (h : ¬ g_st S x) : bw_call (d + 3) 29 [.inr (.inr w), .inl (nI x)] μ = some (some (.inl 0), μ) := by
  rw [qX2_hasSoundTable _ hw, sW_rows _ hw hS hR hx, bq_I]
  exact (sW_st_go (d + 1) hw hS hR hx 0 (by omega) none none (fun q hq => by omega)).2 h
theorem sW_sound_go (d : Nat) {w : Nat} (hw : w = 2 ∨ w = 12) {S : bwS} {μ : bwM} (hS : bwOK S) (hR : bwC w S μ) (x : Nat) (hx : x ≤ gN S) (hp : ∀ q, q < x → gD S q = none → g_st S q) : (g_sound S → eX2_isSound (d + 3) 2 [some (.inr (.inr w)), some (.inl (nI x))] [] μ = some (some (.inl 1), μ)) ∧ (¬ g_sound S → eX2_isSound (d + 3) 2 [some (.inr (.inr w)), some (.inl (nI x))] [] μ = some (some (.inl 0), μ)) := by
  have hn := ok_n hS
  induction hj : gN S - x generalizing x with
  | zero =>
    have : x = gN S := by omega
    subst this
    rw [qX2_isSound_2 _ hw, rc_n hR, if_pos (nI_le (by omega) (by omega)), bq_0, bq_1]
    by_cases h0 : 0 < gN S
    · rw [if_neg (nI_nle h0 (by omega))]
      exact ⟨fun _ => rfl, fun h => absurd ⟨h0, hp⟩ h⟩
    · have : gN S = 0 := by omega
      rw [this]
      exact ⟨fun h => absurd h.1 h0, fun _ => if_pos (by decide)⟩
  | succ j ih =>
    have hx' : x < gN S := by omega
    rw [qX2_isSound_2 _ hw, rc_n hR, if_neg (nI_ge (by omega) (by omega)), if_pos ((bq_ii (by omega)).2 (by omega)), nI_clamp (by omega), ra_d hR.1 hx', qX2_isSound_30 _ hw, nI_1]
    have h2 := fun hh => ih (x + 1) (by omega) hh (by omega)
    by_cases hd : gD S x = none
    · rw [if_pos ((bo_m1 _ (ok_ds hS hx')).2 hd)]
      by_cases hs : g_st S x
      · rw [sW_st _ hw hS hR hx' hs, bq_I, if_neg bq_ne10, qX2_isSound_30 _ hw, nI_1]
        exact h2 (fun q hq hdq => by
          by_cases hqx : q = x
          · rw [hqx]; exact hs
          · exact hp q (by omega) hdq)
      · rw [sW_nst _ hw hS hR hx' hs, bq_I, if_pos rfl, bq_0]
        exact ⟨fun h => absurd (h.2 x hx' hd) hs, fun _ => rfl⟩
    · rw [if_neg (fun h => hd ((bo_m1 _ (ok_ds hS hx')).1 h))]
      exact h2 (fun q hq hdq => by
        by_cases hqx : q = x
        · rw [hqx] at hdq; exact absurd hdq hd
        · exact hp q (by omega) hdq)
theorem sW_sound (d : Nat) {w : Nat} (hw : w = 2 ∨ w = 12) {S : bwS} {μ : bwM} (hS : bwOK S) (hR : bwC w S μ) (h : g_sound S) : bw_call (d + 4) 28 [.inr (.inr w)] μ = some (some (.inl 1), μ) := by
  rw [qX2_isSound _ hw]
  exact (sW_sound_go d hw hS hR 0 (by omega) (fun q hq => by omega)).1 h
theorem sW_nsound (d : Nat) {w : Nat} (hw : w = 2 ∨ w = 12) {S : bwS} {μ : bwM} (hS : bwOK S) (hR : bwC w S μ) (h : ¬ g_sound S) : bw_call (d + 4) 28 [.inr (.inr w)] μ = some (some (.inl 0), μ) := by
  rw [qX2_isSound _ hw]
  exact (sW_sound_go d hw hS hR 0 (by omega) (fun q hq => by omega)).2 h
theorem sM_st_in (d : Nat) {S : bwS} {μ : bwM} (hS : bwOK S) (hR : bwR' S μ) {x : Nat} (hx : x < gN S) {r : Nat} (hr : r < g_rows S x) (v : Nat) (hv : v ≤ gV S x) : eX4_isSound d 16 [some (.inr (.inr 30)), some (.inl (nI x)), some (.inl (nI r)), some (.inl (nI (bp_sum (gW S x r) v))), some (.inl (nI v))] [] μ = if bp_sum (gW S x r) (gV S x) = gT S x then eX4_isSound d 2 [some (.inr (.inr 30)), some (.inl (nI x)), some (.inl (nI (r + 1))), some (.inl (nI (bp_sum (gW S x r) (gV S x)))), some (.inl (nI (gV S x)))] [] μ else some (some (.inl 0), μ) := by
  have hn := ok_n hS
  have h4 := ok_v4 hS hx
  have hr64 := (g_rows_pos hS hx).2
  induction hj : gV S x - v generalizing v with
  | zero =>
    have : v = gV S x := by omega
    subst this
    have hs := ok_sum hS hx hr (gV S x) (by omega)
    have ht := ok_t100 hS hx
    rw [qX4_isSound_16, bq_0]
    simp only [bq_it (show x < 12 by omega) (by decide)]
    rw [nI_clamp (n := x) (by omega), rm_v hR hx, if_pos (nI_le (by omega) (by omega)), rm_t hR hx, nI_1]
    by_cases he : bp_sum (gW S x r) (gV S x) = gT S x
    · rw [if_pos he, if_pos (by rw [he])]
    · rw [if_neg he, if_neg (fun h => he ((nI_eq (by omega) (by omega)).1 h))]
  | succ j ih =>
    rw [qX4_isSound_16, bq_0]
    simp only [bq_it (show x < 12 by omega) (by decide)]
    rw [nI_clamp (n := x) (by omega), rm_v hR hx, if_neg (nI_ge (by omega) (by omega)), bq_256, if_pos ((bq_ii (by omega)).2 (by omega)), nI_clamp (by omega), rm_w hR hx hr (by omega), nI_add, qX4_isSound_47, nI_1]
    exact ih (v + 1) (by omega) (by omega)
theorem sM_st_go (d : Nat) {S : bwS} {μ : bwM} (hS : bwOK S) (hR : bwR' S μ) {x : Nat} (hx : x < gN S) (r : Nat) (hr : r ≤ g_rows S x) (o4 o5 : Option bwV) (hp : ∀ q, q < r → bp_sum (gW S x q) (gV S x) = gT S x) : (g_st S x → eX4_isSound (d + 1) 2 [some (.inr (.inr 30)), some (.inl (nI x)), some (.inl (nI r)), o4, o5] [] μ = some (some (.inl 1), μ)) ∧ (¬ g_st S x → eX4_isSound (d + 1) 2 [some (.inr (.inr 30)), some (.inl (nI x)), some (.inl (nI r)), o4, o5] [] μ = some (some (.inl 0), μ)) := by
  have hr64 := (g_rows_pos hS hx).2
  induction hj : g_rows S x - r generalizing r o4 o5 with
  | zero =>
    have : r = g_rows S x := by omega
    subst this
    rw [qX4_isSound_2, sM_rows _ hS hR hx, bq_I, if_pos (nI_le (by omega) (by omega)), bq_1]
    exact ⟨fun _ => rfl, fun h => absurd hp h⟩
  | succ j ih =>
    have hin := sM_st_in (d + 1) hS hR hx (r := r) (by omega) 0 (by omega)
    rw [qX4_isSound_2, sM_rows _ hS hR hx, bq_I, if_neg (nI_ge (by omega) (by omega))]
    by_cases he : bp_sum (gW S x r) (gV S x) = gT S x
    · rw [if_pos he] at hin
      have h2 := ih (r + 1) (by omega) (some (.inl (nI (bp_sum (gW S x r) (gV S x))))) (some (.inl (nI (gV S x)))) (fun q hq => by
        by_cases hqr : q = r
        · rw [hqr]; exact he
        · exact hp q (by omega)) (by omega)
      exact ⟨fun h => hin.trans (h2.1 h), fun h => hin.trans (h2.2 h)⟩
    · rw [if_neg he] at hin
      exact ⟨fun h => absurd (h r (by omega)) he, fun _ => hin⟩
theorem sM_st (d : Nat) {S : bwS} {μ : bwM} (hS : bwOK S) (hR : bwR' S μ) {x : Nat} (hx : x < gN S) (h : g_st S x) : bw_call (d + 2) 97 [.inr (.inr 30), .inl (nI x)] μ = some (some (.inl 1), μ) := by
  rw [qX4_isSound]
  exact (sM_st_go d hS hR hx 0 (by omega) none none (fun q hq => by omega)).1 h
theorem sM_nst (d : Nat) {S : bwS} {μ : bwM} (hS : bwOK S) (hR : bwR' S μ) {x : Nat} (hx : x < gN S) (h : ¬ g_st S x) : bw_call (d + 2) 97 [.inr (.inr 30), .inl (nI x)] μ = some (some (.inl 0), μ) := by
  rw [qX4_isSound]
  exact (sM_st_go d hS hR hx 0 (by omega) none none (fun q hq => by omega)).2 h
theorem sM_rough_go (d : Nat) {S : bwS} {μ : bwM} (hS : bwOK S) (hR : bwR' S μ) (x : Nat) (hx : x ≤ gN S) (hp : ∀ q, q < x → gD S q = none → g_st S q) : (g_sound S → eX4_isRough (d + 2) 2 [some (.inr (.inr 30)), some (.inl (nI x))] [] μ = some (some (.inl 0), μ)) ∧ (¬ g_sound S → eX4_isRough (d + 2) 2 [some (.inr (.inr 30)), some (.inl (nI x))] [] μ = some (some (.inl 1), μ)) := by
  have hn := ok_n hS
  induction hj : gN S - x generalizing x with
  | zero =>
    have : x = gN S := by omega
    subst this
    rw [qX4_isRough_2, rr_n hR, if_pos (nI_le (by omega) (by omega)), bq_0, bq_1]
    by_cases h0 : 0 < gN S
    · rw [if_neg (nI_ne0 h0 (by omega))]
      exact ⟨fun _ => rfl, fun h => absurd ⟨h0, hp⟩ h⟩
    · have : gN S = 0 := by omega
      rw [this]
      exact ⟨fun h => absurd h.1 h0, fun _ => if_pos (by decide)⟩
  | succ j ih =>
    have hx' : x < gN S := by omega
    rw [qX4_isRough_2, rr_n hR, if_neg (nI_ge (by omega) (by omega)), if_pos ((bq_ii (by omega)).2 (by omega)), nI_clamp (by omega), rm_d hR hx', qX4_isRough_29, nI_1]
    have h2 := fun hh => ih (x + 1) (by omega) hh (by omega)
    by_cases hd : gD S x = none
    · rw [if_neg (fun h => (bo_ge _ (ok_ds hS hx')).1 h hd)]
      by_cases hs : g_st S x
      · rw [sM_st _ hS hR hx' hs, bq_I, if_neg bq_ne10, qX4_isRough_29, nI_1]
        exact h2 (fun q hq hdq => by
          by_cases hqx : q = x
          · rw [hqx]; exact hs
          · exact hp q (by omega) hdq)
      · rw [sM_nst _ hS hR hx' hs, bq_I, if_pos rfl, bq_1]
        exact ⟨fun h => absurd (h.2 x hx' hd) hs, fun _ => rfl⟩
    · rw [if_pos ((bo_ge _ (ok_ds hS hx')).2 hd)]
      exact h2 (fun q hq hdq => by
        by_cases hqx : q = x
        · rw [hqx] at hdq; exact absurd hdq hd
        · exact hp q (by omega) hdq)
theorem sM_nrough (d : Nat) {S : bwS} {μ : bwM} (hS : bwOK S) (hR : bwR' S μ) (h : g_sound S) : bw_call (d + 3) 100 [.inr (.inr 30)] μ = some (some (.inl 0), μ) := by
  rw [qX4_isRough]
  exact (sM_rough_go d hS hR 0 (by omega) (fun q hq => by omega)).1 h
theorem sM_rough (d : Nat) {S : bwS} {μ : bwM} (hS : bwOK S) (hR : bwR' S μ) (h : ¬ g_sound S) : bw_call (d + 3) 100 [.inr (.inr 30)] μ = some (some (.inl 1), μ) := by
  rw [qX4_isRough]
  exact (sM_rough_go d hS hR 0 (by omega) (fun q hq => by omega)).2 h
