/-! PURE: the other reads of a web. -/
theorem sW_hasO (d : Nat) {w : Nat} (hw : w = 2 ∨ w = 12) {S : bwS} {μ : bwM} (hS : bwOK S) (hR : bwC w S μ) {o : Nat} (ho : o < gO S) : bw_call (d + 1) 21 [.inr (.inr w), .inl (nI o)] μ = some (some (.inl 1), μ) := by
  have hn := ok_o hS
  rw [qX2_hasOption _ hw, if_neg (nI_pos (by omega)), rc_o hR, if_neg (nI_ge ho (by omega)), bq_1]
def bw_isO (S : bwS) (x : Int32) : Prop := ∃ j, j < gO S ∧ x = nI j
theorem sW_hasNO (d : Nat) {w : Nat} (hw : w = 2 ∨ w = 12) {S : bwS} {μ : bwM} (hS : bwOK S) (hR : bwC w S μ) {x : Int32} (hj : ¬ bw_isO S x) : bw_call (d + 1) 21 [.inr (.inr w), .inl x] μ = some (some (.inl 0), μ) := by
  have hn := ok_o hS
  rw [qX2_hasOption _ hw, rc_o hR, bq_0, bq_1]
  rcases pk_ix x (n := gO S) (by omega) with h | h | h
  · rw [if_pos h]
  · rw [if_pos h]; split <;> rfl
  · exact absurd h hj
theorem sM_isO (d : Nat) {S : bwS} {μ : bwM} (hS : bwOK S) (hR : bwR' S μ) {o : Nat} (ho : o < gO S) : bw_call (d + 1) 129 [.inr (.inr 30), .inl (nI o)] μ = some (some (.inl 1), μ) := by
  have hn := ok_o hS
  rw [qX4_isOption, if_neg (nI_pos (by omega)), rr_o hR, if_neg (nI_ge ho (by omega)), bq_1]
theorem sM_isNO (d : Nat) {S : bwS} {μ : bwM} (hS : bwOK S) (hR : bwR' S μ) {x : Int32} (hj : ¬ bw_isO S x) : bw_call (d + 1) 129 [.inr (.inr 30), .inl x] μ = some (some (.inl 0), μ) := by
  have hn := ok_o hS
  rw [qX4_isOption, rr_o hR, bq_0, bq_1]
  rcases pk_ix x (n := gO S) (by omega) with h | h | h
  · rw [if_pos h]
  · rw [if_pos h]; split <;> rfl
  · exact absurd h hj
/-- a weight by its ints -/
def bw_isW (S : bwS) (x y z : Int32) : Prop := ∃ j r v, j < gN S ∧ r < g_rows S j ∧ v < gV S j ∧ x = nI j ∧ y = nI r ∧ z = nI v
theorem sW_hasW (d : Nat) {w : Nat} (hw : w = 2 ∨ w = 12) {S : bwS} {μ : bwM} (hS : bwOK S) (hR : bwC w S μ) {j r v : Nat} (hj : j < gN S) (hr : r < g_rows S j) (hv : v < gV S j) : bw_call (d + 3) 20 [.inr (.inr w), .inl (nI j), .inl (nI r), .inl (nI v)] μ = some (some (.inl 1), μ) := by
  have h64 := (g_rows_pos hS hj).2
  rw [qX2_hasWeight _ hw, sW_hasV _ hw hS hR hj hv, bq_I, if_neg bq_ne10, if_neg (nI_pos (by omega)), sW_rows _ hw hS hR hj, bq_I, if_neg (nI_ge hr (by omega)), bq_1]
theorem sW_hasNW (d : Nat) {w : Nat} (hw : w = 2 ∨ w = 12) {S : bwS} {μ : bwM} (hS : bwOK S) (hR : bwC w S μ) {x y z : Int32} (hj : ¬ bw_isW S x y z) : bw_call (d + 3) 20 [.inr (.inr w), .inl x, .inl y, .inl z] μ = some (some (.inl 0), μ) := by
  rw [qX2_hasWeight _ hw]
  by_cases hx : bw_isV S x z
  · obtain ⟨j, v, hj', hv, rfl, rfl⟩ := hx
    have h64 := (g_rows_pos hS hj').2
    rw [sW_hasV _ hw hS hR hj' hv, bq_I, if_neg bq_ne10, bq_0, sW_rows _ hw hS hR hj', bq_I, bq_0, bq_1]
    rcases pk_ix y (n := g_rows S j) (by omega) with h | h | ⟨r, h, rfl⟩
    · rw [if_pos h]
    · rw [if_pos h]; split <;> rfl
    · exact absurd ⟨j, r, v, hj', h, hv, rfl, rfl, rfl⟩ hj
  · rw [sW_hasNV _ hw hS hR hx, bq_I, if_pos rfl, bq_0]
theorem sM_isW (d : Nat) {S : bwS} {μ : bwM} (hS : bwOK S) (hR : bwR' S μ) {j r v : Nat} (hj : j < gN S) (hr : r < g_rows S j) (hv : v < gV S j) : bw_call (d + 3) 94 [.inr (.inr 30), .inl (nI j), .inl (nI r), .inl (nI v)] μ = some (some (.inl 1), μ) := by
  have h64 := (g_rows_pos hS hj).2
  rw [qX4_isWeight, sM_isV _ hS hR hj hv, bq_I, if_neg bq_ne10, if_neg (nI_pos (by omega)), sM_rows _ hS hR hj, bq_I, if_neg (nI_ge hr (by omega)), bq_1]
theorem sM_isNW (d : Nat) {S : bwS} {μ : bwM} (hS : bwOK S) (hR : bwR' S μ) {x y z : Int32} (hj : ¬ bw_isW S x y z) : bw_call (d + 3) 94 [.inr (.inr 30), .inl x, .inl y, .inl z] μ = some (some (.inl 0), μ) := by
  rw [qX4_isWeight]
  by_cases hx : bw_isV S x z
  · obtain ⟨j, v, hj', hv, rfl, rfl⟩ := hx
    have h64 := (g_rows_pos hS hj').2
    rw [sM_isV _ hS hR hj' hv, bq_I, if_neg bq_ne10, bq_0, sM_rows _ hS hR hj', bq_I, bq_0, bq_1]
    rcases pk_ix y (n := g_rows S j) (by omega) with h | h | ⟨r, h, rfl⟩
    · rw [if_pos h]
    · rw [if_pos h]; split <;> rfl
    · exact absurd ⟨j, r, v, hj', h, hv, rfl, rfl, rfl⟩ hj
  · rw [sM_isNV _ hS hR hx, bq_I, if_pos rfl, bq_0]
/-- a value that a thing may be known as -/
def bw_isK (S : bwS) (x y : Int32) : Prop := ∃ j o, j < gN S ∧ (∀ v, o = some v → v < gV S j) ∧ x = nI j ∧ y = bo_I o
theorem sW_may (d : Nat) {w : Nat} (hw : w = 2 ∨ w = 12) {S : bwS} {μ : bwM} (hS : bwOK S) (hR : bwC w S μ) {j : Nat} {o : Option Nat} (hj : j < gN S) (ho : ∀ v, o = some v → v < gV S j) : bw_call (d + 3) 19 [.inr (.inr w), .inl (nI j), .inl (bo_I o)] μ = some (some (.inl 1), μ) := by
  have h4 := ok_v4 hS hj
  rw [qX2_mayBeKnownAs _ hw, sW_hasT _ hw hS hR hj, bq_I, if_neg bq_ne10, bq_1]
  cases o with
  | none => exact if_pos rfl
  | some v =>
    have hv := ho v rfl
    rw [if_neg (fun h => by cases (bo_m1 (some v) (fun u hu => by cases hu; omega)).1 h)]
    show bw_bI (bw_call _ 18 [.inr (.inr w), .inl (nI j), .inl (nI v)] μ) _ _ = _
    rw [sW_hasV _ hw hS hR hj hv, bq_I, if_neg bq_ne10, bq_1]
theorem sW_nmay (d : Nat) {w : Nat} (hw : w = 2 ∨ w = 12) {S : bwS} {μ : bwM} (hS : bwOK S) (hR : bwC w S μ) {x y : Int32} (h : ¬ bw_isK S x y) : bw_call (d + 3) 19 [.inr (.inr w), .inl x, .inl y] μ = some (some (.inl 0), μ) := by
  rw [qX2_mayBeKnownAs _ hw]
  by_cases hx : bw_isT S x
  · obtain ⟨j, hj, rfl⟩ := hx
    rw [sW_hasT _ hw hS hR hj, bq_I, if_neg bq_ne10, if_neg (fun hy : y = -1 => h ⟨j, none, hj, (fun v hv => (by cases hv)), rfl, hy⟩), sW_hasNV _ hw hS hR (fun ⟨j', v, hj', hv, he, hy⟩ => h ⟨j', some v, hj', (fun u hu => (by cases hu; exact hv)), he, hy⟩), bq_I, if_pos rfl, bq_0]
  · rw [sW_hasNT _ hw hS hR hx, bq_I, if_pos rfl, bq_0]
theorem sM_may (d : Nat) {S : bwS} {μ : bwM} (hS : bwOK S) (hR : bwR' S μ) {j : Nat} {o : Option Nat} (hj : j < gN S) (ho : ∀ v, o = some v → v < gV S j) : bw_call (d + 3) 102 [.inr (.inr 30), .inl (nI j), .inl (bo_I o)] μ = some (some (.inl 1), μ) := by
  have h4 := ok_v4 hS hj
  rw [qX4_mayBe, sM_isT _ hS hR hj, bq_I, if_neg bq_ne10, bq_1]
  cases o with
  | none => exact if_pos rfl
  | some v =>
    have hv := ho v rfl
    rw [if_neg (fun h => by cases (bo_m1 (some v) (fun u hu => by cases hu; omega)).1 h)]
    show bw_bI (bw_call _ 86 [.inr (.inr 30), .inl (nI j), .inl (nI v)] μ) _ _ = _
    rw [sM_isV _ hS hR hj hv, bq_I, if_neg bq_ne10, bq_1]
theorem sM_nmay (d : Nat) {S : bwS} {μ : bwM} (hS : bwOK S) (hR : bwR' S μ) {x y : Int32} (h : ¬ bw_isK S x y) : bw_call (d + 3) 102 [.inr (.inr 30), .inl x, .inl y] μ = some (some (.inl 0), μ) := by
  rw [qX4_mayBe]
  by_cases hx : bw_isT S x
  · obtain ⟨j, hj, rfl⟩ := hx
    rw [sM_isT _ hS hR hj, bq_I, if_neg bq_ne10, if_neg (fun hy : y = -1 => h ⟨j, none, hj, (fun v hv => (by cases hv)), rfl, hy⟩), sM_isNV _ hS hR (fun ⟨j', v, hj', hv, he, hy⟩ => h ⟨j', some v, hj', (fun u hu => (by cases hu; exact hv)), he, hy⟩), bq_I, if_pos rfl, bq_0]
  · rw [sM_isNT _ hS hR hx, bq_I, if_pos rfl, bq_0]
def g_free (S : bwS) (x : Nat) : Prop := gS S x = none ∧ gD S x = none
theorem sW_free (d : Nat) {w : Nat} (hw : w = 2 ∨ w = 12) {S : bwS} {μ : bwM} (hS : bwOK S) (hR : bwC w S μ) {x : Nat} (hx : x < gN S) : (g_free S x → bw_call (d + 1) 22 [.inr (.inr w), .inl (nI x)] μ = some (some (.inl 1), μ)) ∧ (¬ g_free S x → bw_call (d + 1) 22 [.inr (.inr w), .inl (nI x)] μ = some (some (.inl 0), μ)) := by
  have hn := ok_n hS
  rw [qX2_isFree _ hw, bq_0, bq_1]
  simp only [bq_it (show x < 12 by omega) (by decide)]
  rw [nI_clamp (by omega), ra_s hR.1 hx, ra_d hR.1 hx]
  have h1 := bo_m1 _ (ok_ss hS hx)
  have h2 := bo_m1 _ (ok_ds hS hx)
  unfold g_free
  by_cases ha : gS S x = none
  · rw [if_pos (h1.2 ha)]
    by_cases hb : gD S x = none
    · rw [if_pos (h2.2 hb)]; exact ⟨fun _ => rfl, fun h => absurd ⟨ha, hb⟩ h⟩
    · rw [if_neg (fun h => hb (h2.1 h))]; exact ⟨fun h => absurd h.2 hb, fun _ => rfl⟩
  · rw [if_neg (fun h => ha (h1.1 h))]; exact ⟨fun h => absurd h.1 ha, fun _ => rfl⟩
theorem sM_known (d : Nat) {S : bwS} {μ : bwM} (hS : bwOK S) (hR : bwR' S μ) {x : Nat} (hx : x < gN S) : (g_free S x → bw_call (d + 1) 135 [.inr (.inr 30), .inl (nI x)] μ = some (some (.inl 0), μ)) ∧ (¬ g_free S x → bw_call (d + 1) 135 [.inr (.inr 30), .inl (nI x)] μ = some (some (.inl 1), μ)) := by
  have hn := ok_n hS
  rw [qX4_isKnown, bq_0, bq_1]
  simp only [bq_it (show x < 12 by omega) (by decide)]
  rw [nI_clamp (by omega), rm_s hR hx, rm_d hR hx]
  have h1 := bo_ge _ (ok_ss hS hx)
  have h2 := bo_lt _ (ok_ds hS hx)
  unfold g_free
  by_cases ha : gS S x = none
  · rw [if_neg (fun h => h1.1 h ha)]
    by_cases hb : gD S x = none
    · rw [if_pos (h2.2 hb)]; exact ⟨fun _ => rfl, fun h => absurd ⟨ha, hb⟩ h⟩
    · rw [if_neg (fun h => hb (h2.1 h))]; exact ⟨fun h => absurd h.2 hb, fun _ => rfl⟩
  · rw [if_pos (h1.2 ha)]; exact ⟨fun h => absurd h.1 ha, fun _ => rfl⟩
/-- what a thing brings to the likelihood at a row and a value -/
def g_fac (S : bwS) (x r v : Nat) : Nat := match gD S x with
  | some u => if u = v then gF S x v * gT S x else 0
  | none => match gS S x with
    | some u => if u = v then gF S x v * gW S x r v else 0
    | none => gF S x v * gW S x r v
theorem sW_factor (d : Nat) {w : Nat} (hw : w = 2 ∨ w = 12) {S : bwS} {μ : bwM} (hS : bwOK S) (hR : bwC w S μ) {x r v : Nat} (hx : x < gN S) (hr : r < g_rows S x) (hv : v < gV S x) : bw_call (d + 2) 30 [.inr (.inr w), .inl (nI x), .inl (nI r), .inl (nI v)] μ = some (some (.inl (nI (g_fac S x r v))), μ) := by
  have hn := ok_n hS
  have h4 := ok_v4 hS hx
  have h64 := (g_rows_pos hS hx).2
  rw [qX2_factor _ hw, sB_slot, bq_I, if_pos ((bq_ii (by omega)).2 (by omega))]
  simp only [bq_it (show x < 12 by omega) (by decide)]
  rw [qX2_factor_68 _ hw, sB_weightSlot, bq_I, if_pos ((bq_ii (by omega)).2 (by omega)), nI_clamp (n := x) (by omega), nI_clamp (n := 4 * x + v) (by omega), nI_clamp (n := 256 * x + 4 * r + v) (by omega), ra_s hR.1 hx, ra_d hR.1 hx, ra_f hR.1 hx hv, ra_w hR.1 hx hr hv, ra_t hR.1 hx, pk_mul, pk_mul]
  have h1 := bo_m1 _ (ok_ss hS hx)
  have h2 := bo_m1 _ (ok_ds hS hx)
  have h3 := bo_eq _ (ok_ss hS hx) (v := v) (by omega)
  have h5 := bo_eq _ (ok_ds hS hx) (v := v) (by omega)
  unfold g_fac
  cases hd : gD S x with
  | none =>
    rw [hd] at h2 h5
    rw [if_pos (h2.2 rfl)]
    cases hs : gS S x with
    | none => rw [hs] at h1; rw [if_pos (h1.2 rfl)]
    | some u =>
      rw [hs] at h1 h3
      rw [if_neg (fun h => by cases h1.1 h)]
      by_cases hu : u = v
      · rw [if_pos (h3.2 (by rw [hu]))]; simp [hu]
      · rw [if_neg (fun h => hu (by cases h3.1 h; rfl))]; simp [hu, nI_0]
  | some u =>
    rw [hd] at h2 h5
    rw [if_neg (fun h => by cases h2.1 h)]
    by_cases hu : u = v
    · rw [if_pos (h5.2 (by rw [hu]))]; simp [hu]
    · rw [if_neg (fun h => hu (by cases h5.1 h; rfl))]; simp [hu, nI_0]
theorem sW_rowAt_go (d : Nat) {w : Nat} (hw : w = 2 ∨ w = 12) {S : bwS} {μ : bwM} (hS : bwOK S) (hR : bwC w S μ) {x : Nat} (hx : x < gN S) {c : Nat → Nat} (hc : ∀ p, p ∈ gP S x → μ.1 26 p = nI (c p)) (k : Nat) (hk : k ≤ (gP S x).length) (r : Nat) (o5 : Option bwV) : eX2_rowAt (d + 1) 5 [some (.inr (.inr w)), some (.inl (nI x)), some (.inr (.inr 26)), some (.inl (nI r)), some (.inl (nI k)), o5] [] μ = some (some (.inl (nI (((gP S x).drop k).foldl (fun r p => r * gV S p + c p) r))), μ) := by
  have hn := ok_n hS
  have h3 := ok_p3 hS hx
  induction hj : (gP S x).length - k generalizing k r o5 with
  | zero =>
    have : k = (gP S x).length := by omega
    subst this
    rw [qX2_rowAt_5 _ hw, if_pos ((bq_ii (by omega)).2 (by omega)), nI_clamp (by omega), ra_c hR.1 hx, if_pos (nI_le (by omega) (by omega))]
    simp
  | succ j ih =>
    have hk' : k < (gP S x).length := by omega
    have hp := ok_pk hS hx hk'
    rw [qX2_rowAt_5 _ hw, if_pos ((bq_ii (by omega)).2 (by omega)), nI_clamp (by omega), ra_c hR.1 hx, if_neg (nI_ge (by omega) (by omega)), sB_parentSlot, bq_I, if_pos ((bq_ii (by omega)).2 (by omega)), nI_clamp (by omega), ra_p hR.1 hx hk']
    simp only [bq_it (show (gP S x)[k] < 12 by omega) (by decide)]
    rw [nI_clamp (by omega), ra_v hR.1 hp, hc _ (List.getElem_mem hk'), pk_mul, nI_add, nI_1, ih (k + 1) (by omega) _ _ (by omega), List.drop_eq_getElem_cons hk', List.foldl_cons]
theorem sW_rowAt (d : Nat) {w : Nat} (hw : w = 2 ∨ w = 12) {S : bwS} {μ : bwM} (hS : bwOK S) (hR : bwC w S μ) {x : Nat} (hx : x < gN S) {c : Nat → Nat} (hc : ∀ p, p ∈ gP S x → μ.1 26 p = nI (c p)) : bw_call (d + 2) 27 [.inr (.inr w), .inl (nI x), .inr (.inr 26)] μ = some (some (.inl (nI (g_row S x c))), μ) := by
  rw [qX2_rowAt _ hw]
  exact sW_rowAt_go d hw hS hR hx hc 0 (by omega) 0 none
theorem sW_pp_go (d : Nat) {w : Nat} (hw : w = 2 ∨ w = 12) {S : bwS} {μ : bwM} (hS : bwOK S) (hR : bwC w S μ) {x a : Nat} (hx : x < gN S) (ha : a < gN S) (k : Nat) (hk : k ≤ (gP S x).length) : ((∀ i (h : i < (gP S x).length), k ≤ i → (gP S x)[i] ≠ a) → eX2_parentPlace (d + 1) 2 [some (.inr (.inr w)), some (.inl (nI x)), some (.inl (nI a)), some (.inl (nI k))] [] μ = some (some (.inl (-1)), μ)) ∧ (∀ i (h : i < (gP S x).length), k ≤ i → (gP S x)[i] = a → eX2_parentPlace (d + 1) 2 [some (.inr (.inr w)), some (.inl (nI x)), some (.inl (nI a)), some (.inl (nI k))] [] μ = some (some (.inl (nI i)), μ)) := by
  have hn := ok_n hS
  have h3 := ok_p3 hS hx
  have hnd := ok_pd hS hx
  induction hj : (gP S x).length - k generalizing k with
  | zero =>
    have : k = (gP S x).length := by omega
    subst this
    rw [qX2_parentPlace_2 _ hw, if_pos ((bq_ii (by omega)).2 (by omega)), nI_clamp (by omega), ra_c hR.1 hx, if_pos (nI_le (by omega) (by omega))]
    exact ⟨fun _ => rfl, fun i h h' => by omega⟩
  | succ j ih =>
    have hk' : k < (gP S x).length := by omega
    have hp := ok_pk hS hx hk'
    have hi := ih (k + 1) (by omega) (by omega)
    rw [qX2_parentPlace_2 _ hw, if_pos ((bq_ii (by omega)).2 (by omega)), nI_clamp (by omega), ra_c hR.1 hx, if_neg (nI_ge (by omega) (by omega)), sB_parentSlot, bq_I, if_pos ((bq_ii (by omega)).2 (by omega)), nI_clamp (by omega), ra_p hR.1 hx hk', nI_1]
    by_cases he : (gP S x)[k] = a
    · rw [if_pos (by rw [he])]
      refine ⟨fun h => absurd he (h k hk' (Nat.le_refl k)), fun i h _ hia => ?_⟩
      have : i = k := (List.getElem_inj (h₀ := h) (h₁ := hk') hnd).1 (hia.trans he.symm)
      rw [this]
    · rw [if_neg (fun h => he ((nI_eq (by omega) (by omega)).1 h))]
      refine ⟨fun h => hi.1 (fun i h' hki => h i h' (by omega)), fun i h hki hia => hi.2 i h ?_ hia⟩
      have : i ≠ k := fun hik => he (by subst hik; exact hia)
      omega
theorem sW_pp_no (d : Nat) {w : Nat} (hw : w = 2 ∨ w = 12) {S : bwS} {μ : bwM} (hS : bwOK S) (hR : bwC w S μ) {x a : Nat} (hx : x < gN S) (ha : a < gN S) (h : a ∉ gP S x) : bw_call (d + 2) 31 [.inr (.inr w), .inl (nI x), .inl (nI a)] μ = some (some (.inl (-1)), μ) := by
  rw [qX2_parentPlace _ hw]
  exact (sW_pp_go d hw hS hR hx ha 0 (by omega)).1 (fun i hi _ he => h (he ▸ List.getElem_mem hi))
theorem sW_pp (d : Nat) {w : Nat} (hw : w = 2 ∨ w = 12) {S : bwS} {μ : bwM} (hS : bwOK S) (hR : bwC w S μ) {x i : Nat} (hx : x < gN S) (h : i < (gP S x).length) : bw_call (d + 2) 31 [.inr (.inr w), .inl (nI x), .inl (nI (gP S x)[i])] μ = some (some (.inl (nI i)), μ) := by
  rw [qX2_parentPlace _ hw]
  exact (sW_pp_go d hw hS hR hx (ok_pk hS hx h) 0 (by omega)).2 i h (by omega) rfl
theorem sM_par_go (d : Nat) {S : bwS} {μ : bwM} (hS : bwOK S) (hR : bwR' S μ) {x a : Nat} (hx : x < gN S) (ha : a < gN S) (k : Nat) (hk : k ≤ (gP S x).length) : (a ∉ (gP S x).drop k → eX4_isParent d 2 [some (.inr (.inr 30)), some (.inl (nI a)), some (.inl (nI x)), some (.inl (nI k))] [] μ = some (some (.inl 0), μ)) ∧ (a ∈ (gP S x).drop k → eX4_isParent d 2 [some (.inr (.inr 30)), some (.inl (nI a)), some (.inl (nI x)), some (.inl (nI k))] [] μ = some (some (.inl 1), μ)) := by
  have hn := ok_n hS
  have h3 := ok_p3 hS hx
  induction hj : (gP S x).length - k generalizing k with
  | zero =>
    have : k = (gP S x).length := by omega
    subst this
    rw [qX4_isParent_2, if_pos ((bq_ii (by omega)).2 (by omega)), nI_clamp (n := x) (by omega), rm_c hR hx, if_pos (nI_le (by omega) (by omega)), bq_0]
    exact ⟨fun _ => rfl, fun h => by simp at h⟩
  | succ j ih =>
    have hk' : k < (gP S x).length := by omega
    have hp := ok_pk hS hx hk'
    have hi := ih (k + 1) (by omega) (by omega)
    rw [qX4_isParent_2, if_pos ((bq_ii (by omega)).2 (by omega)), nI_clamp (n := x) (by omega), rm_c hR hx, if_neg (nI_ge (by omega) (by omega)), bq_3, if_pos ((bq_ii (by omega)).2 (by omega)), nI_clamp (by omega), rm_p hR hx hk', nI_1, bq_1, List.drop_eq_getElem_cons hk']
    by_cases he : (gP S x)[k] = a
    · rw [if_pos (by rw [he])]
      exact ⟨fun h => absurd (by rw [he]; exact List.mem_cons_self) h, fun _ => rfl⟩
    · rw [if_neg (fun h => he ((nI_eq (by omega) (by omega)).1 h))]
      refine ⟨fun h => hi.1 (fun h' => h (List.mem_cons_of_mem _ h')), fun h => hi.2 ?_⟩
      rcases List.mem_cons.1 h with h' | h'
      · exact absurd h'.symm he
      · exact h'
theorem sM_npar (d : Nat) {S : bwS} {μ : bwM} (hS : bwOK S) (hR : bwR' S μ) {x a : Nat} (hx : x < gN S) (ha : a < gN S) (h : a ∉ gP S x) : bw_call (d + 1) 90 [.inr (.inr 30), .inl (nI a), .inl (nI x)] μ = some (some (.inl 0), μ) := by
  rw [qX4_isParent]
  exact (sM_par_go d hS hR hx ha 0 (by omega)).1 h
theorem sM_par (d : Nat) {S : bwS} {μ : bwM} (hS : bwOK S) (hR : bwR' S μ) {x a : Nat} (hx : x < gN S) (ha : a < gN S) (h : a ∈ gP S x) : bw_call (d + 1) 90 [.inr (.inr 30), .inl (nI a), .inl (nI x)] μ = some (some (.inl 1), μ) := by
  rw [qX4_isParent]
  exact (sM_par_go d hS hR hx ha 0 (by omega)).2 h
