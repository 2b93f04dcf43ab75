/-! PURE: the web as numbers: things, options, values, totals, parents (a list), weights, seen, done, forces, worths; what a memory holds of it. -/
abbrev bwS : Type := Nat × Nat × (Nat → Nat) × (Nat → Nat) × (Nat → List Nat) × (Nat → Nat → Nat → Nat) × (Nat → Option Nat) × (Nat → Option Nat) × (Nat → Nat → Nat) × (Nat → Nat → Nat → Int32)
def gN (S : bwS) : Nat := S.1
def gO (S : bwS) : Nat := S.2.1
def gV (S : bwS) : Nat → Nat := S.2.2.1
def gT (S : bwS) : Nat → Nat := S.2.2.2.1
def gP (S : bwS) : Nat → List Nat := S.2.2.2.2.1
def gW (S : bwS) : Nat → Nat → Nat → Nat := S.2.2.2.2.2.1
def gS (S : bwS) : Nat → Option Nat := S.2.2.2.2.2.2.1
def gD (S : bwS) : Nat → Option Nat := S.2.2.2.2.2.2.2.1
def gF (S : bwS) : Nat → Nat → Nat := S.2.2.2.2.2.2.2.2.1
def gU (S : bwS) : Nat → Nat → Nat → Int32 := S.2.2.2.2.2.2.2.2.2
def bo_I (o : Option Nat) : Int32 := match o with
  | none => -1
  | some v => nI v
def bp_prod (f : Nat → Nat) (n : Nat) : Nat := match n with
  | 0 => 1
  | n + 1 => bp_prod f n * f n
def g_rows (S : bwS) (x : Nat) : Nat := (gP S x).foldl (fun r p => r * gV S p) 1
def g_row (S : bwS) (x : Nat) (c : Nat → Nat) : Nat := (gP S x).foldl (fun r p => r * gV S p + c p) 0
def bwOK (S : bwS) : Prop := (gN S ≤ 12 ∧ gO S ≤ 6) ∧ (∀ x, x < gN S → 2 ≤ gV S x ∧ gV S x ≤ 4 ∧ 1 ≤ gT S x ∧ gT S x ≤ 100) ∧ (∀ x, x < gN S → (gP S x).length ≤ 3 ∧ (gP S x).Nodup ∧ ∀ p, p ∈ gP S x → p < gN S) ∧ (∀ x, gN S ≤ x → gP S x = []) ∧ (∀ x r v, x < gN S → r < g_rows S x → v < gV S x → gW S x r v ≤ gT S x) ∧ (∀ x, x < gN S → (∀ v, gS S x = some v → v < gV S x) ∧ (∀ v, gD S x = some v → v < gV S x) ∧ (gS S x = none ∨ gD S x = none)) ∧ (∀ x v, x < gN S → v < gV S x → gF S x v ≤ 3) ∧ (∀ o x v, (-500 ≤ (gU S o x v).toInt ∧ (gU S o x v).toInt ≤ 500) ∧ (¬ (o < gO S ∧ x < gN S ∧ v < gV S x) → gU S o x v = 0)) ∧ (bp_prod (gV S) (gN S) ≤ 20000 ∧ bp_prod (gT S) (gN S) ≤ 1000000000) ∧ (∃ rk : Nat → Nat, ∀ x p, x < gN S → p ∈ gP S x → rk p < rk x)
/-- the arrays of a web in the cells b + 1 .. b + 9, at the places that count -/
def bwA (b : Nat) (S : bwS) (μ : bwM) : Prop := (∀ x, x < gN S → μ.1 (b + 1) x = nI (gV S x) ∧ μ.1 (b + 2) x = nI (gT S x) ∧ μ.1 (b + 3) x = nI (gP S x).length ∧ μ.1 (b + 6) x = bo_I (gS S x) ∧ μ.1 (b + 7) x = bo_I (gD S x)) ∧ (∀ x k (h : k < (gP S x).length), x < gN S → μ.1 (b + 4) (3 * x + k) = nI ((gP S x)[k])) ∧ (∀ x r v, x < gN S → r < g_rows S x → v < gV S x → μ.1 (b + 5) (256 * x + 4 * r + v) = nI (gW S x r v)) ∧ (∀ x v, x < gN S → v < gV S x → μ.1 (b + 8) (4 * x + v) = nI (gF S x v)) ∧ (∀ o x v, o < gO S → x < gN S → v < gV S x → μ.1 (b + 9) (48 * o + 4 * x + v) = gU S o x v)
/-- the class's Web in the cells w .. w + 9 -/
def bwC (w : Nat) (S : bwS) (μ : bwM) : Prop := bwA w S μ ∧ μ.1 w 0 = nI (gN S) ∧ μ.1 w 1 = nI (gO S) ∧ (∀ x, gN S ≤ x → x < 12 → μ.1 (w + 3) x = 0) ∧ (∀ o x v, o < 6 → x < 12 → v < 4 → ¬ (o < gO S ∧ x < gN S ∧ v < gV S x) → μ.1 (w + 9) (48 * o + 4 * x + v) = 0)
/-- the reference's web in the cells 30 .. 39 -/
def bwR' (S : bwS) (μ : bwM) : Prop := bwA 30 S μ ∧ μ.1 30 1 = nI (gN S) ∧ μ.1 30 10 = nI (gO S)
theorem ok_n {S : bwS} (h : bwOK S) : gN S ≤ 12 := h.1.1
theorem ok_o {S : bwS} (h : bwOK S) : gO S ≤ 6 := h.1.2
theorem ok_v2 {S : bwS} (h : bwOK S) {x : Nat} (hx : x < gN S) : 2 ≤ gV S x := (h.2.1 x hx).1
theorem ok_v4 {S : bwS} (h : bwOK S) {x : Nat} (hx : x < gN S) : gV S x ≤ 4 := (h.2.1 x hx).2.1
theorem ok_t1 {S : bwS} (h : bwOK S) {x : Nat} (hx : x < gN S) : 1 ≤ gT S x := (h.2.1 x hx).2.2.1
theorem ok_t100 {S : bwS} (h : bwOK S) {x : Nat} (hx : x < gN S) : gT S x ≤ 100 := (h.2.1 x hx).2.2.2
theorem ok_p3 {S : bwS} (h : bwOK S) {x : Nat} (hx : x < gN S) : (gP S x).length ≤ 3 := (h.2.2.1 x hx).1
theorem ok_pd {S : bwS} (h : bwOK S) {x : Nat} (hx : x < gN S) : (gP S x).Nodup := (h.2.2.1 x hx).2.1
theorem ok_pn {S : bwS} (h : bwOK S) {x : Nat} (hx : x < gN S) {p : Nat} (hp : p ∈ gP S x) : p < gN S := (h.2.2.1 x hx).2.2 p hp
theorem ok_pk {S : bwS} (h : bwOK S) {x : Nat} (hx : x < gN S) {k : Nat} (hk : k < (gP S x).length) : (gP S x)[k] < gN S := ok_pn h hx (List.getElem_mem hk)
theorem ok_p0 {S : bwS} (h : bwOK S) {x : Nat} (hx : gN S ≤ x) : gP S x = [] := h.2.2.2.1 x hx
theorem ok_w {S : bwS} (h : bwOK S) {x r v : Nat} (hx : x < gN S) (hr : r < g_rows S x) (hv : v < gV S x) : gW S x r v ≤ gT S x := h.2.2.2.2.1 x r v hx hr hv
theorem ok_sv {S : bwS} (h : bwOK S) {x v : Nat} (hx : x < gN S) (hv : gS S x = some v) : v < gV S x := (h.2.2.2.2.2.1 x hx).1 v hv
theorem ok_dv {S : bwS} (h : bwOK S) {x v : Nat} (hx : x < gN S) (hv : gD S x = some v) : v < gV S x := (h.2.2.2.2.2.1 x hx).2.1 v hv
theorem ok_sd {S : bwS} (h : bwOK S) {x : Nat} (hx : x < gN S) : gS S x = none ∨ gD S x = none := (h.2.2.2.2.2.1 x hx).2.2
theorem ok_f {S : bwS} (h : bwOK S) {x v : Nat} (hx : x < gN S) (hv : v < gV S x) : gF S x v ≤ 3 := h.2.2.2.2.2.2.1 x v hx hv
theorem ok_u1 {S : bwS} (h : bwOK S) (o x v : Nat) : -500 ≤ (gU S o x v).toInt := (h.2.2.2.2.2.2.2.1 o x v).1.1
theorem ok_u2 {S : bwS} (h : bwOK S) (o x v : Nat) : (gU S o x v).toInt ≤ 500 := (h.2.2.2.2.2.2.2.1 o x v).1.2
theorem ok_u0 {S : bwS} (h : bwOK S) {o x v : Nat} (hn : ¬ (o < gO S ∧ x < gN S ∧ v < gV S x)) : gU S o x v = 0 := (h.2.2.2.2.2.2.2.1 o x v).2 hn
theorem ok_pv {S : bwS} (h : bwOK S) : bp_prod (gV S) (gN S) ≤ 20000 := h.2.2.2.2.2.2.2.2.1.1
theorem ok_pt {S : bwS} (h : bwOK S) : bp_prod (gT S) (gN S) ≤ 1000000000 := h.2.2.2.2.2.2.2.2.1.2
theorem ok_rk {S : bwS} (h : bwOK S) : ∃ rk : Nat → Nat, ∀ x p, x < gN S → p ∈ gP S x → rk p < rk x := h.2.2.2.2.2.2.2.2.2
theorem ra_v {b : Nat} {S : bwS} {μ : bwM} (h : bwA b S μ) {x : Nat} (hx : x < gN S) : μ.1 (b + 1) x = nI (gV S x) := (h.1 x hx).1
theorem ra_t {b : Nat} {S : bwS} {μ : bwM} (h : bwA b S μ) {x : Nat} (hx : x < gN S) : μ.1 (b + 2) x = nI (gT S x) := (h.1 x hx).2.1
theorem ra_c {b : Nat} {S : bwS} {μ : bwM} (h : bwA b S μ) {x : Nat} (hx : x < gN S) : μ.1 (b + 3) x = nI (gP S x).length := (h.1 x hx).2.2.1
theorem ra_s {b : Nat} {S : bwS} {μ : bwM} (h : bwA b S μ) {x : Nat} (hx : x < gN S) : μ.1 (b + 6) x = bo_I (gS S x) := (h.1 x hx).2.2.2.1
theorem ra_d {b : Nat} {S : bwS} {μ : bwM} (h : bwA b S μ) {x : Nat} (hx : x < gN S) : μ.1 (b + 7) x = bo_I (gD S x) := (h.1 x hx).2.2.2.2
theorem ra_p {b : Nat} {S : bwS} {μ : bwM} (h : bwA b S μ) {x k : Nat} (hx : x < gN S) (hk : k < (gP S x).length) : μ.1 (b + 4) (3 * x + k) = nI ((gP S x)[k]) := h.2.1 x k hk hx
theorem ra_w {b : Nat} {S : bwS} {μ : bwM} (h : bwA b S μ) {x r v : Nat} (hx : x < gN S) (hr : r < g_rows S x) (hv : v < gV S x) : μ.1 (b + 5) (256 * x + 4 * r + v) = nI (gW S x r v) := h.2.2.1 x r v hx hr hv
theorem ra_f {b : Nat} {S : bwS} {μ : bwM} (h : bwA b S μ) {x v : Nat} (hx : x < gN S) (hv : v < gV S x) : μ.1 (b + 8) (4 * x + v) = nI (gF S x v) := h.2.2.2.1 x v hx hv
theorem ra_u {b : Nat} {S : bwS} {μ : bwM} (h : bwA b S μ) {o x v : Nat} (ho : o < gO S) (hx : x < gN S) (hv : v < gV S x) : μ.1 (b + 9) (48 * o + 4 * x + v) = gU S o x v := h.2.2.2.2 o x v ho hx hv
theorem rc_a {w : Nat} {S : bwS} {μ : bwM} (h : bwC w S μ) : bwA w S μ := h.1
theorem rc_n {w : Nat} {S : bwS} {μ : bwM} (h : bwC w S μ) : μ.1 w 0 = nI (gN S) := h.2.1
theorem rc_o {w : Nat} {S : bwS} {μ : bwM} (h : bwC w S μ) : μ.1 w 1 = nI (gO S) := h.2.2.1
theorem rc_c {w : Nat} {S : bwS} {μ : bwM} (h : bwC w S μ) (hS : bwOK S) {x : Nat} (hx : x < 12) : μ.1 (w + 3) x = nI (gP S x).length := by
  by_cases hn : x < gN S
  · exact ra_c h.1 hn
  · rw [h.2.2.2.1 x (by omega) hx, ok_p0 hS (by omega)]; rfl
theorem rc_u {w : Nat} {S : bwS} {μ : bwM} (h : bwC w S μ) (hS : bwOK S) {o x v : Nat} (ho : o < 6) (hx : x < 12) (hv : v < 4) : μ.1 (w + 9) (48 * o + 4 * x + v) = gU S o x v := by
  by_cases hn : o < gO S ∧ x < gN S ∧ v < gV S x
  · exact ra_u h.1 hn.1 hn.2.1 hn.2.2
  · rw [h.2.2.2.2 o x v ho hx hv hn, ok_u0 hS hn]
theorem rr_a {S : bwS} {μ : bwM} (h : bwR' S μ) : bwA 30 S μ := h.1
theorem rr_n {S : bwS} {μ : bwM} (h : bwR' S μ) : μ.1 30 1 = nI (gN S) := h.2.1
theorem rr_o {S : bwS} {μ : bwM} (h : bwR' S μ) : μ.1 30 10 = nI (gO S) := h.2.2
theorem fr_a {b : Nat} {S : bwS} {μ ν : bwM} (h : bwA b S μ) (hf : ∀ i, i < 10 → ν.1 (b + i) = μ.1 (b + i)) : bwA b S ν := by
  unfold bwA
  rw [hf 1 (by omega), hf 2 (by omega), hf 3 (by omega), hf 4 (by omega), hf 5 (by omega), hf 6 (by omega), hf 7 (by omega), hf 8 (by omega), hf 9 (by omega)]
  exact h
theorem fr_c {w : Nat} {S : bwS} {μ ν : bwM} (h : bwC w S μ) (hf : ∀ i, i < 10 → ν.1 (w + i) = μ.1 (w + i)) : bwC w S ν := by
  have h0 : ν.1 w = μ.1 w := hf 0 (by omega)
  refine ⟨fr_a h.1 hf, ?_⟩
  rw [h0, hf 3 (by omega), hf 9 (by omega)]
  exact h.2
theorem fr_r {S : bwS} {μ ν : bwM} (h : bwR' S μ) (hf : ∀ i, i < 10 → i ≠ 0 → ν.1 (30 + i) = μ.1 (30 + i)) (h1 : ν.1 30 1 = μ.1 30 1) (h2 : ν.1 30 10 = μ.1 30 10) : bwR' S ν := by
  refine ⟨?_, h1.trans h.2.1, h2.trans h.2.2⟩
  unfold bwA
  rw [hf 1 (by omega) (by omega), hf 2 (by omega) (by omega), hf 3 (by omega) (by omega), hf 4 (by omega) (by omega), hf 5 (by omega) (by omega), hf 6 (by omega) (by omega), hf 7 (by omega) (by omega), hf 8 (by omega) (by omega), hf 9 (by omega) (by omega)]
  exact h.1
/-- a loop that counts up to n: what holds at its end holds of the whole -/
theorem bq_loop {α β : Type} (E : Nat → α → β) (n : Nat) (P : Nat → α → Prop) (Q : β → Prop) (hend : ∀ a, P n a → Q (E n a)) (hstep : ∀ k a, k < n → P k a → Q (E k a) ∨ ∃ a', E k a = E (k + 1) a' ∧ P (k + 1) a') : ∀ k a, k ≤ n → P k a → Q (E k a) := by
  intro k a hk
  induction hj : n - k generalizing k a with
  | zero =>
    have : k = n := by omega
    subst this
    exact hend a
  | succ j ih =>
    intro hp
    rcases hstep k a (by omega) hp with hq | ⟨a', he, hp'⟩
    · exact hq
    · rw [he]; exact ih (k + 1) a' (by omega) (by omega) hp'
theorem bq_ii {k n : Nat} (hk : k < 2 ^ 31) : bw_in (nI k) n ↔ k < n := by
  unfold bw_in
  rw [nI_clamp hk]
  exact ⟨fun h => h.2, fun h => ⟨nI_pos' hk, h⟩⟩
theorem sB_slot (d x v : Nat) (μ : bwM) : bw_call (d + 1) 80 [.inl (nI x), .inl (nI v)] μ = some (some (.inl (nI (4 * x + v))), μ) := by
  rw [qX3_slot, show (4 : Int32) = nI 4 from rfl, pk_mul, nI_add, Nat.mul_comm]
theorem sB_weightSlot (d x r v : Nat) (μ : bwM) : bw_call (d + 1) 81 [.inl (nI x), .inl (nI r), .inl (nI v)] μ = some (some (.inl (nI (256 * x + 4 * r + v))), μ) := by
  rw [qX3_weightSlot, show (4 : Int32) = nI 4 from rfl, show (256 : Int32) = nI 256 from rfl, pk_mul, pk_mul, nI_add, nI_add, Nat.mul_comm x, Nat.mul_comm r]
theorem sB_worthSlot (d o x v : Nat) (μ : bwM) : bw_call (d + 2) 82 [.inl (nI o), .inl (nI x), .inl (nI v)] μ = some (some (.inl (nI (48 * o + 4 * x + v))), μ) := by
  rw [qX3_worthSlot, sB_slot, bq_I, show (48 : Int32) = nI 48 from rfl, pk_mul, nI_add, Nat.mul_comm o, Nat.add_assoc]
theorem sB_parentSlot (d x v : Nat) (μ : bwM) : bw_call (d + 1) 83 [.inl (nI x), .inl (nI v)] μ = some (some (.inl (nI (3 * x + v))), μ) := by
  rw [qX3_parentSlot, show (3 : Int32) = nI 3 from rfl, pk_mul, nI_add, Nat.mul_comm]
