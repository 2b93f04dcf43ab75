/-! PURE: reads. Rows and their numbers. -/
theorem g_rows_pos {S : bwS} (hS : bwOK S) {x : Nat} (hx : x < gN S) : 1 ≤ g_rows S x ∧ g_rows S x ≤ 64 := by
  have h3 := ok_p3 hS hx
  have key : ∀ (l : List Nat), (∀ p, p ∈ l → p < gN S) → ∀ r, 1 ≤ r → 1 ≤ l.foldl (fun r p => r * gV S p) r ∧ l.foldl (fun r p => r * gV S p) r ≤ r * 4 ^ l.length := by
    intro l
    induction l with
    | nil => intro _ r hr; simpa using hr
    | cons p t ih =>
      intro hl r hr
      have hp := hl p (by simp)
      have h2 := ok_v2 hS hp
      have h4 := ok_v4 hS hp
      have h1 : 1 ≤ r * gV S p := Nat.mul_pos hr (by omega)
      have hh := ih (fun q hq => hl q (by simp [hq])) _ h1
      refine ⟨hh.1, Nat.le_trans hh.2 ?_⟩
      rw [List.length_cons, Nat.pow_succ, Nat.mul_assoc, Nat.mul_comm (4 ^ t.length)]
      exact Nat.mul_le_mul_left r (Nat.mul_le_mul_right _ h4)
  have hh := key (gP S x) (fun p hp => ok_pn hS hx hp) 1 (by omega)
  refine ⟨hh.1, Nat.le_trans hh.2 ?_⟩
  rw [Nat.one_mul]
  exact Nat.le_trans (Nat.pow_le_pow_right (by omega) h3) (by decide)
theorem g_row_lt {S : bwS} (hS : bwOK S) {x : Nat} (hx : x < gN S) {c : Nat → Nat} (hc : ∀ y, y < gN S → c y < gV S y) : g_row S x c < g_rows S x := by
  have key : ∀ (l : List Nat), (∀ p, p ∈ l → p < gN S) → ∀ a r, a < r → l.foldl (fun r p => r * gV S p + c p) a < l.foldl (fun r p => r * gV S p) r := by
    intro l
    induction l with
    | nil => intro _ a r hr; exact hr
    | cons p t ih =>
      intro hl a r hr
      have hp := hl p (by simp)
      have h2 := hc p hp
      refine ih (fun q hq => hl q (by simp [hq])) (a * gV S p + c p) (r * gV S p) ?_
      have h3 : (a + 1) * gV S p ≤ r * gV S p := Nat.mul_le_mul_right _ hr
      rw [Nat.add_mul] at h3
      omega
  exact key _ (fun p hp => ok_pn hS hx hp) 0 1 (by omega)
theorem sW_rows_go (d : Nat) {w : Nat} (hw : w = 2 ∨ w = 12) {S : bwS} {μ : bwM} (hS : bwOK S) (hR : bwC w S μ) {x : Nat} (hx : x < gN S) (k : Nat) (hk : k ≤ (gP S x).length) (r : Nat) : eX2_rows (d + 1) 4 [some (.inr (.inr w)), some (.inl (nI x)), some (.inl (nI r)), some (.inl (nI k))] [] μ = some (some (.inl (nI (((gP S x).drop k).foldl (fun r p => r * gV S p) r))), μ) := by
  have hn := ok_n hS
  have h3 := ok_p3 hS hx
  induction hj : (gP S x).length - k generalizing k r with
  | zero =>
    have : k = (gP S x).length := by omega
    subst this
    rw [qX2_rows_4 _ hw, if_pos ((bq_ii (by omega)).2 (by omega)), nI_clamp (by omega), ra_c hR.1 hx, if_pos (nI_le (by omega) (by omega))]
    simp
  | succ j ih =>
    have hk' : k < (gP S x).length := by omega
    have hp := ok_pk hS hx hk'
    rw [qX2_rows_4 _ hw, if_pos ((bq_ii (by omega)).2 (by omega)), nI_clamp (by omega), ra_c hR.1 hx, if_neg (nI_ge (by omega) (by omega)), sB_parentSlot, bq_I, if_pos ((bq_ii (by omega)).2 (by omega)), nI_clamp (by omega), ra_p hR.1 hx hk', if_pos ((bq_ii (by omega)).2 (by omega)), nI_clamp (by omega), ra_v hR.1 hp, pk_mul, nI_1, ih (k + 1) (by omega) _ (by omega), List.drop_eq_getElem_cons hk', List.foldl_cons]
theorem sW_rows (d : Nat) {w : Nat} (hw : w = 2 ∨ w = 12) {S : bwS} {μ : bwM} (hS : bwOK S) (hR : bwC w S μ) {x : Nat} (hx : x < gN S) : bw_call (d + 2) 26 [.inr (.inr w), .inl (nI x)] μ = some (some (.inl (nI (g_rows S x))), μ) := by
  rw [qX2_rows _ hw]
  exact sW_rows_go d hw hS hR hx 0 (by omega) 1

theorem rm_v {S : bwS} {μ : bwM} (h : bwR' S μ) {x : Nat} (hx : x < gN S) : μ.1 31 x = nI (gV S x) := ra_v h.1 hx
theorem rm_t {S : bwS} {μ : bwM} (h : bwR' S μ) {x : Nat} (hx : x < gN S) : μ.1 32 x = nI (gT S x) := ra_t h.1 hx
theorem rm_c {S : bwS} {μ : bwM} (h : bwR' S μ) {x : Nat} (hx : x < gN S) : μ.1 33 x = nI (gP S x).length := ra_c h.1 hx
theorem rm_s {S : bwS} {μ : bwM} (h : bwR' S μ) {x : Nat} (hx : x < gN S) : μ.1 36 x = bo_I (gS S x) := ra_s h.1 hx
theorem rm_d {S : bwS} {μ : bwM} (h : bwR' S μ) {x : Nat} (hx : x < gN S) : μ.1 37 x = bo_I (gD S x) := ra_d h.1 hx
theorem rm_p {S : bwS} {μ : bwM} (h : bwR' S μ) {x k : Nat} (hx : x < gN S) (hk : k < (gP S x).length) : μ.1 34 (3 * x + k) = nI ((gP S x)[k]) := ra_p h.1 hx hk
theorem rm_w {S : bwS} {μ : bwM} (h : bwR' S μ) {x r v : Nat} (hx : x < gN S) (hr : r < g_rows S x) (hv : v < gV S x) : μ.1 35 (256 * x + 4 * r + v) = nI (gW S x r v) := ra_w h.1 hx hr hv
theorem rm_f {S : bwS} {μ : bwM} (h : bwR' S μ) {x v : Nat} (hx : x < gN S) (hv : v < gV S x) : μ.1 38 (4 * x + v) = nI (gF S x v) := ra_f h.1 hx hv
theorem rm_u {S : bwS} {μ : bwM} (h : bwR' S μ) {o x v : Nat} (ho : o < gO S) (hx : x < gN S) (hv : v < gV S x) : μ.1 39 (48 * o + 4 * x + v) = gU S o x v := ra_u h.1 ho hx hv
theorem bq_3 (x k : Nat) : (3 : Int32) * nI x + nI k = nI (3 * x + k) := by rw [show (3 : Int32) = nI 3 from rfl, pk_mul, nI_add]
theorem bq_4 (x k : Nat) : (4 : Int32) * nI x + nI k = nI (4 * x + k) := by rw [show (4 : Int32) = nI 4 from rfl, pk_mul, nI_add]
theorem bq_256 (x r k : Nat) : (256 : Int32) * nI x + (4 : Int32) * nI r + nI k = nI (256 * x + 4 * r + k) := by rw [show (4 : Int32) = nI 4 from rfl, show (256 : Int32) = nI 256 from rfl, pk_mul, pk_mul, nI_add, nI_add]
theorem bq_48 (o x k : Nat) : (48 : Int32) * nI o + (4 : Int32) * nI x + nI k = nI (48 * o + 4 * x + k) := by rw [show (4 : Int32) = nI 4 from rfl, show (48 : Int32) = nI 48 from rfl, pk_mul, pk_mul, nI_add, nI_add]
theorem bq_0 {β : Type} (a b : β) : (if (0 : Int32) = 0 ∨ (0 : Int32) = 1 then a else b) = a := if_pos bq_01
theorem bq_1 {β : Type} (a b : β) : (if (1 : Int32) = 0 ∨ (1 : Int32) = 1 then a else b) = a := if_pos bq_11
theorem bq_it {k n : Nat} (h : k < n) (hn : n < 2 ^ 31) : ∀ {β : Type} (a b : β), (if bw_in (nI k) n then a else b) = a := fun _ _ => if_pos ((bq_ii (by omega)).2 h)
theorem bq_ne10 : ¬ (1 : Int32) = 0 := by decide
theorem bo_m1 (o : Option Nat) (h : ∀ v, o = some v → v < 2 ^ 31) : bo_I o = -1 ↔ o = none := by
  cases o with
  | none => exact ⟨fun _ => rfl, fun _ => rfl⟩
  | some v =>
    refine ⟨fun h' => ?_, fun h' => by cases h'⟩
    have h1 := nI_pos (h v rfl)
    have h2 : nI v = -1 := h'
    rw [h2] at h1
    exact absurd (by decide) h1
theorem bo_ge (o : Option Nat) (h : ∀ v, o = some v → v < 2 ^ 31) : 0 ≤ bo_I o ↔ o ≠ none := by
  cases o with
  | none => exact ⟨fun h' => absurd h' (by decide), fun h' => absurd rfl h'⟩
  | some v => exact ⟨fun _ h' => (by cases h'), fun _ => nI_pos' (h v rfl)⟩
theorem bo_lt (o : Option Nat) (h : ∀ v, o = some v → v < 2 ^ 31) : bo_I o < 0 ↔ o = none := by
  cases o with
  | none => exact ⟨fun _ => rfl, fun _ => by decide⟩
  | some v => exact ⟨fun h' => absurd h' (nI_pos (h v rfl)), fun h' => by cases h'⟩
theorem bo_eq (o : Option Nat) (h : ∀ v, o = some v → v < 2 ^ 31) {v : Nat} (hv : v < 2 ^ 31) : bo_I o = nI v ↔ o = some v := by
  cases o with
  | none =>
    refine ⟨fun h' => ?_, fun h' => by cases h'⟩
    have h1 := nI_pos hv
    rw [← h'] at h1
    exact absurd (by decide) h1
  | some u =>
    constructor
    · intro h'
      rw [(nI_eq (h u rfl) hv).1 h']
    · intro h'
      cases h'
      rfl
theorem ok_ss {S : bwS} (h : bwOK S) {x : Nat} (hx : x < gN S) : ∀ v, gS S x = some v → v < 2 ^ 31 := fun v hv => by
  have h1 := ok_sv h hx hv
  have h2 := ok_v4 h hx
  omega
theorem ok_ds {S : bwS} (h : bwOK S) {x : Nat} (hx : x < gN S) : ∀ v, gD S x = some v → v < 2 ^ 31 := fun v hv => by
  have h1 := ok_dv h hx hv
  have h2 := ok_v4 h hx
  omega
/-- a thing, a value, a row of a thing, an option by its int -/
def bw_isT (S : bwS) (x : Int32) : Prop := ∃ j, j < gN S ∧ x = nI j
def bw_isV (S : bwS) (x y : Int32) : Prop := ∃ j v, j < gN S ∧ v < gV S j ∧ x = nI j ∧ y = nI v
theorem sW_hasT (d : Nat) {w : Nat} (hw : w = 2 ∨ w = 12) {S : bwS} {μ : bwM} (hS : bwOK S) (hR : bwC w S μ) {j : Nat} (hj : j < gN S) : bw_call (d + 1) 17 [.inr (.inr w), .inl (nI j)] μ = some (some (.inl 1), μ) := by
  have hn := ok_n hS
  rw [qX2_hasThing _ hw, if_neg (nI_pos (by omega)), rc_n hR, if_neg (nI_ge hj (by omega)), bq_1]
theorem sW_hasNT (d : Nat) {w : Nat} (hw : w = 2 ∨ w = 12) {S : bwS} {μ : bwM} (hS : bwOK S) (hR : bwC w S μ) {x : Int32} (hj : ¬ bw_isT S x) : bw_call (d + 1) 17 [.inr (.inr w), .inl x] μ = some (some (.inl 0), μ) := by
  have hn := ok_n hS
  rw [qX2_hasThing _ hw, rc_n hR, bq_0, bq_1]
  rcases pk_ix x (n := gN S) (by omega) with h | h | h
  · rw [if_pos h]
  · rw [if_pos h]; split <;> rfl
  · exact absurd h hj
theorem sM_isT (d : Nat) {S : bwS} {μ : bwM} (hS : bwOK S) (hR : bwR' S μ) {j : Nat} (hj : j < gN S) : bw_call (d + 1) 85 [.inr (.inr 30), .inl (nI j)] μ = some (some (.inl 1), μ) := by
  have hn := ok_n hS
  rw [qX4_isThing, if_neg (nI_pos (by omega)), rr_n hR, if_neg (nI_ge hj (by omega)), bq_1]
theorem sM_isNT (d : Nat) {S : bwS} {μ : bwM} (hS : bwOK S) (hR : bwR' S μ) {x : Int32} (hj : ¬ bw_isT S x) : bw_call (d + 1) 85 [.inr (.inr 30), .inl x] μ = some (some (.inl 0), μ) := by
  have hn := ok_n hS
  rw [qX4_isThing, rr_n hR, bq_0, bq_1]
  rcases pk_ix x (n := gN S) (by omega) with h | h | h
  · rw [if_pos h]
  · rw [if_pos h]; split <;> rfl
  · exact absurd h hj
theorem sW_hasV (d : Nat) {w : Nat} (hw : w = 2 ∨ w = 12) {S : bwS} {μ : bwM} (hS : bwOK S) (hR : bwC w S μ) {j v : Nat} (hj : j < gN S) (hv : v < gV S j) : bw_call (d + 2) 18 [.inr (.inr w), .inl (nI j), .inl (nI v)] μ = some (some (.inl 1), μ) := by
  have hn := ok_n hS
  have h4 := ok_v4 hS hj
  rw [qX2_hasValue _ hw, sW_hasT _ hw hS hR hj, bq_I, if_neg bq_ne10, if_neg (nI_pos (by omega)), if_pos ((bq_ii (by omega)).2 (by omega)), nI_clamp (by omega), ra_v hR.1 hj, if_neg (nI_ge hv (by omega)), bq_1]
theorem sW_hasNV (d : Nat) {w : Nat} (hw : w = 2 ∨ w = 12) {S : bwS} {μ : bwM} (hS : bwOK S) (hR : bwC w S μ) {x y : Int32} (hj : ¬ bw_isV S x y) : bw_call (d + 2) 18 [.inr (.inr w), .inl x, .inl y] μ = some (some (.inl 0), μ) := by
  have hn := ok_n hS
  rw [qX2_hasValue _ hw]
  by_cases hx : bw_isT S x
  · obtain ⟨j, hj', rfl⟩ := hx
    have h4 := ok_v4 hS hj'
    rw [sW_hasT _ hw hS hR hj', bq_I, if_neg bq_ne10, bq_0, if_pos ((bq_ii (by omega)).2 (by omega)), nI_clamp (by omega), ra_v hR.1 hj', bq_1]
    rcases pk_ix y (n := gV S j) (by omega) with h | h | ⟨v, h, rfl⟩
    · rw [if_pos h]
    · rw [if_pos h]; split <;> rfl
    · exact absurd ⟨j, v, hj', h, rfl, rfl⟩ hj
  · rw [sW_hasNT _ hw hS hR hx, bq_I, if_pos rfl, bq_0]
theorem sM_isV (d : Nat) {S : bwS} {μ : bwM} (hS : bwOK S) (hR : bwR' S μ) {j v : Nat} (hj : j < gN S) (hv : v < gV S j) : bw_call (d + 2) 86 [.inr (.inr 30), .inl (nI j), .inl (nI v)] μ = some (some (.inl 1), μ) := by
  have hn := ok_n hS
  have h4 := ok_v4 hS hj
  rw [qX4_isValue, sM_isT _ hS hR hj, bq_I, if_neg bq_ne10, if_neg (nI_pos (by omega)), if_pos ((bq_ii (by omega)).2 (by omega)), nI_clamp (by omega), rm_v hR hj, if_neg (nI_ge hv (by omega)), bq_1]
theorem sM_isNV (d : Nat) {S : bwS} {μ : bwM} (hS : bwOK S) (hR : bwR' S μ) {x y : Int32} (hj : ¬ bw_isV S x y) : bw_call (d + 2) 86 [.inr (.inr 30), .inl x, .inl y] μ = some (some (.inl 0), μ) := by
  have hn := ok_n hS
  rw [qX4_isValue]
  by_cases hx : bw_isT S x
  · obtain ⟨j, hj', rfl⟩ := hx
    have h4 := ok_v4 hS hj'
    rw [sM_isT _ hS hR hj', bq_I, if_neg bq_ne10, bq_0, if_pos ((bq_ii (by omega)).2 (by omega)), nI_clamp (by omega), rm_v hR hj', bq_1]
    rcases pk_ix y (n := gV S j) (by omega) with h | h | ⟨v, h, rfl⟩
    · rw [if_pos h]
    · rw [if_pos h]; split <;> rfl
    · exact absurd ⟨j, v, hj', h, rfl, rfl⟩ hj
  · rw [sM_isNT _ hS hR hx, bq_I, if_pos rfl, bq_0]
theorem sM_rows_go (d : Nat) {S : bwS} {μ : bwM} (hS : bwOK S) (hR : bwR' S μ) {x : Nat} (hx : x < gN S) (k : Nat) (hk : k ≤ (gP S x).length) (r : Nat) : eX4_rows d 4 [some (.inr (.inr 30)), some (.inl (nI x)), some (.inl (nI r)), some (.inl (nI k))] [] μ = some (some (.inl (nI (((gP S x).drop k).foldl (fun r p => r * gV S p) r))), μ) := by
  have hn := ok_n hS
  have h3 := ok_p3 hS hx
  induction hj : (gP S x).length - k generalizing k r with
  | zero =>
    have : k = (gP S x).length := by omega
    subst this
    rw [qX4_rows_4, if_pos ((bq_ii (by omega)).2 (by omega)), nI_clamp (by omega), rm_c hR hx, if_pos (nI_le (by omega) (by omega))]
    simp
  | succ j ih =>
    have hk' : k < (gP S x).length := by omega
    have hp := ok_pk hS hx hk'
    rw [qX4_rows_4, if_pos ((bq_ii (by omega)).2 (by omega)), nI_clamp (n := x) (by omega), rm_c hR hx, if_neg (nI_ge (by omega) (by omega)), bq_3, if_pos ((bq_ii (by omega)).2 (by omega)), nI_clamp (n := 3 * x + k) (by omega), rm_p hR hx hk', if_pos ((bq_ii (by omega)).2 (by omega)), nI_clamp (by omega), rm_v hR hp, pk_mul, nI_1, ih (k + 1) (by omega) _ (by omega), List.drop_eq_getElem_cons hk', List.foldl_cons]
theorem sM_rows (d : Nat) {S : bwS} {μ : bwM} (hS : bwOK S) (hR : bwR' S μ) {x : Nat} (hx : x < gN S) : bw_call (d + 1) 87 [.inr (.inr 30), .inl (nI x)] μ = some (some (.inl (nI (g_rows S x))), μ) := by
  rw [qX4_rows]
  exact sM_rows_go d hS hR hx 0 (by omega) 1
