/-! PURE: the acts as changes of a web, and the class's Web.carryOut. -/
def bp_up {α : Type} (f : Nat → α) (x : Nat) (v : α) : Nat → α := fun y => if y = x then v else f y
theorem bp_up_eq {α : Type} (f : Nat → α) (x : Nat) (v : α) : bp_up f x v x = v := if_pos rfl
theorem bp_up_ne {α : Type} (f : Nat → α) {x y : Nat} (h : y ≠ x) (v : α) : bp_up f x v y = f y := if_neg h
theorem bq_sie (μ : bwM) (o j : Nat) (x : Int32) : (bw_si μ o j x).1 o j = x := if_pos ⟨rfl, rfl⟩
theorem bq_sin (μ : bwM) {o j o' j' : Nat} (x : Int32) (h : ¬ (o' = o ∧ j' = j)) : (bw_si μ o j x).1 o' j' = μ.1 o' j' := if_neg h
/-- the list of a thing's parents, its table plain again -/
def bo_par (b : Nat) (l : List Nat) (S : bwS) : bwS := (gN S, gO S, gV S, gT S, bp_up (gP S) b l, bp_up (gW S) b (fun _ v => if v = 0 then gT S b else 0), gS S, gD S, gF S, gU S)
def bo_weight (x r v k : Nat) (S : bwS) : bwS := (gN S, gO S, gV S, gT S, gP S, bp_up (gW S) x (bp_up (gW S x) r (bp_up (gW S x r) v k)), gS S, gD S, gF S, gU S)
def bo_known (x : Nat) (s u : Option Nat) (S : bwS) : bwS := (gN S, gO S, gV S, gT S, gP S, gW S, bp_up (gS S) x s, bp_up (gD S) x u, gF S, gU S)
def bo_force (x v f : Nat) (S : bwS) : bwS := (gN S, gO S, gV S, gT S, gP S, gW S, gS S, gD S, bp_up (gF S) x (bp_up (gF S x) v f), gU S)
def bo_options (n : Nat) (S : bwS) : bwS := (gN S, n, gV S, gT S, gP S, gW S, gS S, gD S, gF S, fun o x v => if o < n then gU S o x v else 0)
def bo_worth (o x v : Nat) (u : Int32) (S : bwS) : bwS := (gN S, gO S, gV S, gT S, gP S, gW S, gS S, gD S, gF S, bp_up (gU S) o (bp_up (gU S o) x (bp_up (gU S o x) v u)))
def bo_thing (n t : Nat) (S : bwS) : bwS := (gN S + 1, gO S, bp_up (gV S) (gN S) n, bp_up (gT S) (gN S) t, gP S, bp_up (gW S) (gN S) (fun _ v => if v = 0 then t else 0), bp_up (gS S) (gN S) none, bp_up (gD S) (gN S) none, bp_up (gF S) (gN S) (fun _ => 1), gU S)
/-- an act: its five ints, the web before, the web behind -/
def bw_act (op : Int32 × Int32 × Int32 × Int32 × Int32) (S S' : bwS) : Prop :=
  (∃ a b, op = (0, nI a, nI b, 0, 0) ∧ a < gN S ∧ b < gN S ∧ (gP S b).length < 3 ∧ a ∉ gP S b ∧ S' = bo_par b (gP S b ++ [a]) S) ∨
  (∃ a b, op = (1, nI a, nI b, 0, 0) ∧ b < gN S ∧ a ∈ gP S b ∧ S' = bo_par b ((gP S b).filter (fun p => p != a)) S) ∨
  (∃ x r v k, op = (2, nI x, nI r, nI v, nI k) ∧ x < gN S ∧ r < g_rows S x ∧ v < gV S x ∧ k ≤ gT S x ∧ S' = bo_weight x r v k S) ∨
  (∃ x o, op = (3, nI x, bo_I o, 0, 0) ∧ x < gN S ∧ (∀ v, o = some v → v < gV S x) ∧ S' = bo_known x o none S) ∨
  (∃ x o, op = (4, nI x, bo_I o, 0, 0) ∧ x < gN S ∧ (∀ v, o = some v → v < gV S x) ∧ S' = bo_known x none o S) ∨
  (∃ x v f, op = (5, nI x, nI v, nI f, 0) ∧ x < gN S ∧ v < gV S x ∧ f ≤ 3 ∧ S' = bo_force x v f S) ∨
  (∃ n, op = (6, nI n, 0, 0, 0) ∧ n ≤ 6 ∧ S' = bo_options n S) ∨
  (∃ o x v u, op = (7, nI o, nI x, nI v, u) ∧ o < gO S ∧ x < gN S ∧ v < gV S x ∧ -500 ≤ u.toInt ∧ u.toInt ≤ 500 ∧ S' = bo_worth o x v u S)
theorem sW_rowsG_go (d : Nat) {w : Nat} (hw : w = 2 ∨ w = 12) {μ : bwM} {x : Nat} (hx : x < 12) {l : List Nat} {V : Nat → Nat} (hl : l.length ≤ 3) (hc : μ.1 (w + 3) x = nI l.length) (hp : ∀ k (h : k < l.length), μ.1 (w + 4) (3 * x + k) = nI l[k]) (hv : ∀ p, p ∈ l → p < 12 ∧ μ.1 (w + 1) p = nI (V p)) (k : Nat) (hk : k ≤ l.length) (r : Nat) : eX2_rows (d + 1) 4 [some (.inr (.inr w)), some (.inl (nI x)), some (.inl (nI r)), some (.inl (nI k))] [] μ = some (some (.inl (nI ((l.drop k).foldl (fun r p => r * V p) r))), μ) := by
  induction hj : l.length - k generalizing k r with
  | zero =>
    have : k = l.length := by omega
    subst this
    rw [qX2_rows_4 _ hw, if_pos ((bq_ii (by omega)).2 (by omega)), nI_clamp (by omega), hc, if_pos (nI_le (by omega) (by omega))]
    simp
  | succ j ih =>
    have hk' : k < l.length := by omega
    have hp' := hv _ (List.getElem_mem hk')
    rw [qX2_rows_4 _ hw, if_pos ((bq_ii (by omega)).2 (by omega)), nI_clamp (by omega), hc, if_neg (nI_ge (by omega) (by omega)), sB_parentSlot, bq_I, if_pos ((bq_ii (by omega)).2 (by omega)), nI_clamp (by omega), hp k hk', if_pos ((bq_ii (by omega)).2 (by omega)), nI_clamp (by omega), hp'.2, pk_mul, nI_1, ih (k + 1) (by omega) _ (by omega), List.drop_eq_getElem_cons hk', List.foldl_cons]
theorem sW_reset_in (d : Nat) {w : Nat} (hw : w = 2 ∨ w = 12) {x V T R r : Nat} (hx : x < 12) (hV : V ≤ 4) (hr : r < 64) (v : Nat) (hv : v ≤ V) (μ : bwM) (h1 : μ.1 (w + 1) x = nI V) (h2 : μ.1 (w + 2) x = nI T) : ∃ ν : bwM, eX2_resetTable (d + 1) 16 [some (.inr (.inr w)), some (.inl (nI x)), some (.inl (nI R)), some (.inl (nI r)), some (.inl (nI v))] [] μ = eX2_resetTable (d + 1) 8 [some (.inr (.inr w)), some (.inl (nI x)), some (.inl (nI R)), some (.inl (nI (r + 1))), some (.inl (nI V))] [] ν ∧ ν.2 = μ.2 ∧ (∀ c j, ¬ (c = w + 5 ∧ 256 * x + 4 * r + v ≤ j ∧ j < 256 * x + 4 * r + V) → ν.1 c j = μ.1 c j) ∧ (∀ u, v ≤ u → u < V → ν.1 (w + 5) (256 * x + 4 * r + u) = if u = 0 then nI T else 0) := by
  induction hj : V - v generalizing v μ with
  | zero =>
    have : v = V := by omega
    subst this
    refine ⟨μ, ?_, rfl, fun _ _ _ => rfl, fun u h h' => by omega⟩
    rw [qX2_resetTable_16 _ hw]
    simp only [bq_it (show x < 12 by omega) (by decide)]
    rw [nI_clamp (by omega), h1, if_pos (nI_le (by omega) (by omega)), nI_1]
  | succ j ih =>
    have key : ∀ z : Int32, (z = if v = 0 then nI T else 0) → ∃ ν : bwM, eX2_resetTable (d + 1) 53 [some (.inr (.inr w)), some (.inl (nI x)), some (.inl (nI R)), some (.inl (nI r)), some (.inl (nI v))] [.inl z, .inl (nI (256 * x + 4 * r + v)), .inr (.inr (w + 5))] μ = eX2_resetTable (d + 1) 8 [some (.inr (.inr w)), some (.inl (nI x)), some (.inl (nI R)), some (.inl (nI (r + 1))), some (.inl (nI V))] [] ν ∧ ν.2 = μ.2 ∧ (∀ c j, ¬ (c = w + 5 ∧ 256 * x + 4 * r + v ≤ j ∧ j < 256 * x + 4 * r + V) → ν.1 c j = μ.1 c j) ∧ (∀ u, v ≤ u → u < V → ν.1 (w + 5) (256 * x + 4 * r + u) = if u = 0 then nI T else 0) := by
      intro z hz
      obtain ⟨ν, e1, e2, e3, e4⟩ := ih (v + 1) (by omega) (bw_si μ (w + 5) (256 * x + 4 * r + v) z) (by rw [bq_sin _ _ (by omega)]; exact h1) (by rw [bq_sin _ _ (by omega)]; exact h2) (by omega)
      refine ⟨ν, ?_, e2, fun c j hcj => ?_, fun u hu hu' => ?_⟩
      · rw [qX2_resetTable_53 _ hw, if_pos ((bq_ii (by omega)).2 (by omega)), nI_clamp (by omega), nI_1]
        exact e1
      · rw [e3 c j (by omega), bq_sin _ _ (by omega)]
      · by_cases huv : u = v
        · subst huv
          rw [e3 _ _ (by omega), bq_sie, hz]
        · exact e4 u (by omega) hu'
    rw [qX2_resetTable_16 _ hw]
    simp only [bq_it (show x < 12 by omega) (by decide)]
    rw [nI_clamp (by omega), h1, if_neg (nI_ge (by omega) (by omega)), sB_weightSlot, bq_I]
    by_cases h0 : v = 0
    · rw [if_pos (by rw [h0]; rfl), h2]
      exact key _ (by rw [if_pos h0])
    · rw [if_neg (nI_ne0 (by omega) (by omega))]
      exact key _ (by rw [if_neg h0])
theorem sW_reset_go (d : Nat) {w : Nat} (hw : w = 2 ∨ w = 12) {x V T R : Nat} (hx : x < 12) (hV : V ≤ 4) (hR : R ≤ 64) (r : Nat) (hr : r ≤ R) (o4 : Option bwV) (μ : bwM) (h1 : μ.1 (w + 1) x = nI V) (h2 : μ.1 (w + 2) x = nI T) : ∃ ν : bwM, eX2_resetTable (d + 1) 8 [some (.inr (.inr w)), some (.inl (nI x)), some (.inl (nI R)), some (.inl (nI r)), o4] [] μ = some (none, ν) ∧ ν.2 = μ.2 ∧ (∀ c j, ¬ (c = w + 5 ∧ 256 * x + 4 * r ≤ j ∧ j < 256 * x + 4 * R) → ν.1 c j = μ.1 c j) ∧ (∀ q u, r ≤ q → q < R → u < V → ν.1 (w + 5) (256 * x + 4 * q + u) = if u = 0 then nI T else 0) := by
  induction hj : R - r generalizing r μ o4 with
  | zero =>
    have : r = R := by omega
    subst this
    refine ⟨μ, ?_, rfl, fun _ _ _ => rfl, fun q u h h' => by omega⟩
    rw [qX2_resetTable_8 _ hw, if_pos (nI_le (by omega) (by omega))]
  | succ j ih =>
    obtain ⟨ν, e1, e2, e3, e4⟩ := sW_reset_in d hw (R := R) (T := T) hx hV (r := r) (by omega) 0 (by omega) μ h1 h2
    obtain ⟨π, f1, f2, f3, f4⟩ := ih (r + 1) (by omega) (some (.inl (nI V))) ν (by rw [e3 _ _ (by omega)]; exact h1) (by rw [e3 _ _ (by omega)]; exact h2) (by omega)
    refine ⟨π, ?_, f2.trans e2, fun c j hcj => ?_, fun q u hq hq' hu => ?_⟩
    · rw [qX2_resetTable_8 _ hw, if_neg (nI_ge (by omega) (by omega))]
      exact e1.trans f1
    · rw [f3 c j (by omega), e3 c j (by omega)]
    · by_cases hqr : q = r
      · subst hqr
        rw [f3 _ _ (by omega)]
        exact e4 u (by omega) hu
      · exact f4 q u (by omega) hq' hu
/-- the tables of a thing made plain, over a memory with its new parents -/
theorem sW_reset (d : Nat) {w : Nat} (hw : w = 2 ∨ w = 12) {S : bwS} {b : Nat} {l : List Nat} (hb : b < gN S) (hS' : bwOK (bo_par b l S)) {μ π : bwM} (hR : bwC w S μ) (hf : ∀ c j, ¬ (c = w + 3 ∧ j = b) → ¬ (c = w + 4 ∧ 3 * b ≤ j ∧ j < 3 * b + 3) → π.1 c j = μ.1 c j) (hc : π.1 (w + 3) b = nI l.length) (hp : ∀ k (h : k < l.length), π.1 (w + 4) (3 * b + k) = nI l[k]) : ∃ ν, bw_call (d + 3) 41 [.inr (.inr w), .inl (nI b)] π = some (none, ν) ∧ bwC w (bo_par b l S) ν ∧ ν.2 = π.2 ∧ (∀ c, c < w ∨ w + 9 < c → ν.1 c = μ.1 c) := by
  have hn : gN S ≤ 12 := (show gN (bo_par b l S) ≤ 12 from ok_n hS')
  have hb' : b < gN (bo_par b l S) := hb
  have hl : gP (bo_par b l S) b = l := bp_up_eq _ _ _
  have h3 := ok_p3 hS' hb'
  rw [hl] at h3
  have hV := ok_v4 hS' hb'
  have hRR := (g_rows_pos hS' hb').2
  have hrows : g_rows (bo_par b l S) b = l.foldl (fun r p => r * gV S p) 1 := by unfold g_rows; rw [hl]; rfl
  have h1 : π.1 (w + 1) b = nI (gV S b) := by rw [hf _ _ (by omega) (by omega)]; exact ra_v hR.1 hb
  have h2 : π.1 (w + 2) b = nI (gT S b) := by rw [hf _ _ (by omega) (by omega)]; exact ra_t hR.1 hb
  obtain ⟨ν, e1, e2, e3, e4⟩ := sW_reset_go (d + 1) hw (R := g_rows (bo_par b l S) b) (show b < 12 by omega) hV hRR 0 (by omega) none π h1 h2
  refine ⟨ν, ?_, ⟨⟨fun x hx => ?_, fun x k hk hx => ?_, fun x r v hx hr hv => ?_, fun x v hx hv => ?_, fun o x v ho hx hv => ?_⟩, ?_, ?_, fun x hx hx' => ?_, fun o x v ho hx hv hno => ?_⟩, e2, fun c hc' => ?_⟩
  · rw [qX2_resetTable _ hw, qX2_rows _ hw]
    have := sW_rowsG_go d hw (show b < 12 by omega) (V := gV S) h3 hc hp (fun p hp' => by
      have hpn : p < gN S := (show p < gN (bo_par b l S) from ok_pn hS' hb' (by rw [hl]; exact hp'))
      exact ⟨by omega, by rw [hf _ _ (by omega) (by omega)]; exact ra_v hR.1 hpn⟩) 0 (by omega) 1
    rw [show (1 : Int32) = nI 1 from rfl, show (0 : Int32) = nI 0 from rfl, this, bq_I, List.drop_zero, ← hrows]
    exact e1
  · have hx' : x < gN S := hx
    rw [e3 _ _ (by omega), e3 _ _ (by omega), e3 _ _ (by omega), e3 _ _ (by omega), e3 _ _ (by omega), hf _ _ (by omega) (by omega), hf _ _ (by omega) (by omega), hf (w + 6) _ (by omega) (by omega), hf (w + 7) _ (by omega) (by omega)]
    refine ⟨ra_v hR.1 hx', ra_t hR.1 hx', ?_, ra_s hR.1 hx', ra_d hR.1 hx'⟩
    by_cases hxb : x = b
    · rw [hxb, hl]; exact hc
    · rw [hf _ _ (by omega) (by omega)]
      show _ = nI (bp_up (gP S) b l x).length
      rw [bp_up_ne _ hxb]
      exact ra_c hR.1 hx'
  · have hx' : x < gN S := hx
    rw [e3 _ _ (by omega)]
    by_cases hxb : x = b
    · subst hxb
      have hk' : k < l.length := by rw [hl] at hk; exact hk
      rw [hp k hk']
      congr 1
      simp only [hl]
    · have hpx : gP (bo_par b l S) x = gP S x := bp_up_ne _ hxb _
      have hk' : k < (gP S x).length := by rw [hpx] at hk; exact hk
      have hk3 : (gP S x).length ≤ 3 := by rw [← hpx]; exact ok_p3 hS' hx
      rw [hf _ _ (by omega) (by omega), ra_p hR.1 hx' hk']
      congr 1
      simp only [hpx]
  · have hx' : x < gN S := hx
    by_cases hxb : x = b
    · subst hxb
      rw [e4 r v (by omega) hr hv]
      show _ = nI (bp_up (gW S) x _ x r v)
      rw [bp_up_eq]
      by_cases hv0 : v = 0
      · rw [if_pos hv0, if_pos hv0]
      · rw [if_neg hv0, if_neg hv0]; rfl
    · have hpx : gP (bo_par b l S) x = gP S x := bp_up_ne _ hxb _
      have hgr : g_rows (bo_par b l S) x = g_rows S x := by unfold g_rows; rw [hpx]; rfl
      have h64 := (g_rows_pos hS' hx).2
      have hv4 := ok_v4 hS' hx
      have hv' : v < gV S x := hv
      have hvv : gV (bo_par b l S) x = gV S x := rfl
      rw [hvv] at hv4
      rw [hgr] at hr h64
      rw [e3 _ _ (by omega), hf _ _ (by omega) (by omega), ra_w hR.1 hx' hr hv]
      show _ = nI (bp_up (gW S) b _ x r v)
      rw [bp_up_ne _ hxb]
  · rw [e3 _ _ (by omega), hf _ _ (by omega) (by omega)]
    exact ra_f hR.1 hx hv
  · rw [e3 _ _ (by omega), hf _ _ (by omega) (by omega)]
    exact ra_u hR.1 ho hx hv
  · rw [e3 _ _ (by omega), hf _ _ (by omega) (by omega)]
    exact (show μ.1 w 0 = nI (gN S) from rc_n hR)
  · rw [e3 _ _ (by omega), hf _ _ (by omega) (by omega)]
    exact (show μ.1 w 1 = nI (gO S) from rc_o hR)
  · have hx'' : gN S ≤ x := hx
    rw [e3 _ _ (by omega), hf _ _ (by omega) (by omega)]
    exact hR.2.2.2.1 x hx hx'
  · rw [e3 _ _ (by omega), hf _ _ (by omega) (by omega)]
    exact hR.2.2.2.2 o x v ho hx hv hno
  · funext j
    rw [e3 _ _ (by omega), hf _ _ (by omega) (by omega)]
