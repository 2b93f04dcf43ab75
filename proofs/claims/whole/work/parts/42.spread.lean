/-! PURE: the class's Survey.spread. -/
def bp_S (f : (Nat → Nat) → Nat) (l : List (Nat → Nat)) : Nat := (l.map f).sum
theorem bp_S_nil (f : (Nat → Nat) → Nat) : bp_S f [] = 0 := rfl
theorem bp_S_one (f : (Nat → Nat) → Nat) (c : Nat → Nat) : bp_S f [c] = f c := by unfold bp_S; simp
theorem bp_S_app (f : (Nat → Nat) → Nat) (a b : List (Nat → Nat)) : bp_S f (a ++ b) = bp_S f a + bp_S f b := by unfold bp_S; rw [List.map_append, List.sum_append]
theorem bp_S_congr {f g : (Nat → Nat) → Nat} {l : List (Nat → Nat)} (h : ∀ c, c ∈ l → f c = g c) : bp_S f l = bp_S g l := by unfold bp_S; rw [List.map_congr_left h]
theorem bp_S_zero (l : List (Nat → Nat)) : bp_S (fun _ => 0) l = 0 := by
  induction l with
  | nil => rfl
  | cons a t ih => unfold bp_S at ih ⊢; rw [List.map_cons, List.sum_cons, ih]
def bw_hm (μ : bwM) (held : Option (Nat × Nat)) : Prop := match held with
  | none => μ.1 24 7 = -1
  | some (a, b) => μ.1 24 7 = nI a ∧ μ.1 24 8 = nI b ∧ a < 12 ∧ b < 4
def bw_spH (S : bwS) (held : Option (Nat × Nat)) (ord : List Nat) (B : Nat) (rest : List Nat) (c : Nat → Nat) (P m w : Nat) (l : List (Nat × Nat)) (μ : bwM) : Prop := bwC 2 S μ ∧ bw_om μ ord ∧ bw_hm μ held ∧ (∀ y, y < gN S → y ∉ rest → μ.1 26 y = nI (c y)) ∧ (∀ y, y < gN S → c y < gV S y) ∧ bwK μ m w l ∧ (∀ c' : Nat → Nat, (∀ y, y ∉ rest → c' y = c y) → P * (rest.map (fun x => g_fc S x c')).prod = g_lik S c') ∧ 0 < P ∧ P * (rest.map (fun x => 3 * gT S x)).prod ≤ B
def bw_spC (S : bwS) (rest : List Nat) (M : List (Nat → Nat)) (m w : Nat) (l : List (Nat × Nat)) (μ ν : bwM) : Prop := (∀ y u, y < 12 → u < 4 → ν.2 27 (4 * y + u) = μ.2 27 (4 * y + u) + lN (if y ∈ rest then bp_S (fun c' => if c' y = u then g_lik S c' else 0) M else 0)) ∧ bwK ν (m + M.length) w (M.foldl (fun l c' => bp_ins w (g_lik S c', g_num (gN S) c') l) l) ∧ (∀ c, c ≠ 24 → c ≠ 26 → c ≠ 29 → ν.1 c = μ.1 c) ∧ (∀ j, j ≠ 5 → j ≠ 9 → ν.1 24 j = μ.1 24 j) ∧ (∀ y, y ∉ rest → ν.1 26 y = μ.1 26 y) ∧ (∀ c, c ≠ 27 → c ≠ 28 → ν.2 c = μ.2 c)
theorem lN_zero (x : Int64) : x + lN 0 = x := Int64.add_zero x
theorem bp_tp (T : Nat → Nat) (l : List Nat) (h : ∀ x, x ∈ l → 1 ≤ T x) : 1 ≤ (l.map (fun x => 3 * T x)).prod := by
  induction l with
  | nil => exact Nat.le_refl _
  | cons a t ih =>
    have h1 := ih (fun x hx => h x (List.mem_cons_of_mem _ hx))
    have h2 := h a List.mem_cons_self
    rw [List.map_cons, List.prod_cons]
    exact Nat.mul_pos (by omega) h1
theorem g_fac_le {S : bwS} (hS : bwOK S) {x r v : Nat} (hx : x < gN S) (hr : r < g_rows S x) (hv : v < gV S x) : g_fac S x r v ≤ 3 * gT S x := by
  have h1 := ok_f hS hx hv
  have h2 := ok_w hS hx hr hv
  have h3 : gF S x v * gT S x ≤ 3 * gT S x := Nat.mul_le_mul_right _ h1
  have h4 : gF S x v * gW S x r v ≤ 3 * gT S x := Nat.mul_le_mul h1 h2
  unfold g_fac
  cases gD S x with
  | some u =>
    show (if u = v then _ else 0) ≤ _
    split
    · exact h3
    · exact Nat.zero_le _
  | none =>
    cases gS S x with
    | some u =>
      show (if u = v then _ else 0) ≤ _
      split
      · exact h4
      · exact Nat.zero_le _
    | none => exact h4
/-- the values of one thing from v on -/
def bp_enf (S : bwS) (held : Option (Nat × Nat)) (x : Nat) (t : List Nat) (c : Nat → Nat) (v k : Nat) : List (Nat → Nat) := (List.range' v k).flatMap (fun v => if g_ok S held x (bp_up c x v) = true then bp_en (gV S) (g_ok S held) t (bp_up c x v) else [])
theorem sS_spread_in (d : Nat) {S : bwS} (hS : bwOK S) (held : Option (Nat × Nat)) (ord : List Nat) (B : Nat) (hB : B < 2 ^ 63) (x : Nat) (t : List Nat) (i : Nat) (hx : x < gN S) (hxt : x ∉ t) (htl : ∀ p, p ∈ gP S x → p ∉ x :: t) (htn : ∀ y, y ∈ t → y < gN S)
    (IH : ∀ (c : Nat → Nat) (P m w : Nat) (l : List (Nat × Nat)) (μ : bwM), bw_spH S held ord B t c P m w l μ → ∃ ν, bw_call (d + t.length + 4) 10 [.inr (.inr 2), .inr (.inr 24), .inl (nI (i + 1)), .inr (.inl (lN P))] μ = some (some (.inr (.inl (lN (bp_S (g_lik S) (bp_en (gV S) (g_ok S held) t c))))), ν) ∧ bw_spC S t (bp_en (gV S) (g_ok S held) t c) m w l μ ν)
    (c : Nat → Nat) (P w k : Nat) (v : Nat) (hv : v + k = gV S x) (A m : Nat) (l : List (Nat × Nat)) (o10 : Option bwV) (μ : bwM) (h : bw_spH S held ord B (x :: t) c P m w l μ) : ∃ ν, eX1_spread (d + t.length + 4) 48 [some (.inr (.inr 2)), some (.inr (.inr 24)), some (.inl (nI i)), some (.inr (.inl (lN P))), none, some (.inl (nI x)), some (.inl (nI (g_row S x c))), some (.inr (.inl (lN A))), none, some (.inl (nI v)), o10, none, none, none] [] μ = some (some (.inr (.inl (lN (A + bp_S (g_lik S) (bp_enf S held x t c v k))))), ν) ∧ bw_spC S (x :: t) (bp_enf S held x t c v k) m w l μ ν := by
  have hn := ok_n hS
  induction k generalizing v A m l o10 μ with
  | zero =>
    have h0 := h
    obtain ⟨h1, h2, h3, h4, h5, h6, h7, h8, h9⟩ := h
    have hv4 := ok_v4 hS hx
    refine ⟨μ, ?_, fun y u hy hu => ?_, ?_, fun _ _ _ _ => rfl, fun _ _ _ => rfl, fun _ _ => rfl, fun _ _ _ => rfl⟩
    · rw [qX1_spread_48, if_pos ((bq_ii (by omega)).2 (by omega)), nI_clamp (by omega), ra_v h1.1 hx, if_pos (nI_le (by omega) (by omega))]
      rfl
    · rw [show bp_enf S held x t c v 0 = [] from rfl, bp_S_nil]
      rw [show (if y ∈ x :: t then 0 else 0) = 0 by split <;> rfl, lN_zero]
    · exact h6
  | succ k ih =>
    have h0 := h
    obtain ⟨h1, h2, h3, h4, h5, h6, h7, h8, h9⟩ := h
    have hv4 := ok_v4 hS hx
    have hvx : v < gV S x := by omega
    have hrow : g_row S x c < g_rows S x := g_row_lt hS hx h5
    have hrw : g_row S x (bp_up c x v) = g_row S x c := g_row_congr S x _ _ (fun p hp => bp_up_ne _ (fun he => htl p hp (by rw [he]; exact List.mem_cons_self)) _)
    have hfc : g_fc S x (bp_up c x v) = g_fac S x (g_row S x c) v := by unfold g_fc; rw [hrw, bp_up_eq]
    have hf3 := g_fac_le hS hx hrow hvx
    have hok : g_ok S held x (bp_up c x v) = (decide (0 < g_fac S x (g_row S x c) v) && g_held held x v) := by
      unfold g_ok
      rw [hfc, bp_up_eq]
    have hle : bp_enf S held x t c v (k + 1) = (if g_ok S held x (bp_up c x v) = true then bp_en (gV S) (g_ok S held) t (bp_up c x v) else []) ++ bp_enf S held x t c (v + 1) k := by
      unfold bp_enf
      rw [List.range'_succ, List.flatMap_cons]
    have htp := bp_tp (gT S) t (fun y hy => ok_t1 hS (htn y hy))
    rw [List.map_cons, List.prod_cons] at h9
    have hPf : P * g_fac S x (g_row S x c) v * (t.map (fun x => 3 * gT S x)).prod ≤ B := by
      refine Nat.le_trans ?_ h9
      rw [Nat.mul_assoc]
      exact Nat.mul_le_mul_left P (Nat.mul_le_mul_right _ hf3)
    have hPB : P * g_fac S x (g_row S x c) v ≤ B := Nat.le_trans (Nat.le_mul_of_pos_right _ htp) hPf
    have hft : g_fac S x (g_row S x c) v < 2 ^ 31 := by have := ok_t100 hS hx; omega
    rw [qX1_spread_48, if_pos ((bq_ii (by omega)).2 (by omega)), nI_clamp (by omega), ra_v h1.1 hx, if_neg (nI_ge (by omega) (by omega)), sW_factor _ (Or.inl rfl) hS h1 hx hrow hvx, bq_I, nI_l hft, lN_mul, show Int64.ofNat 0 = lN 0 from rfl]
    -- going on
    have skip : g_ok S held x (bp_up c x v) = false → ∃ ν, eX1_spread (d + t.length + 4) 145 [some (.inr (.inr 2)), some (.inr (.inr 24)), some (.inl (nI i)), some (.inr (.inl (lN P))), none, some (.inl (nI x)), some (.inl (nI (g_row S x c))), some (.inr (.inl (lN A))), none, some (.inl (nI v)), some (.inr (.inl (lN (P * g_fac S x (g_row S x c) v)))), none, none, none] [] μ = some (some (.inr (.inl (lN (A + bp_S (g_lik S) (bp_enf S held x t c v (k + 1)))))), ν) ∧ bw_spC S (x :: t) (bp_enf S held x t c v (k + 1)) m w l μ ν := by
      intro hno
      rw [hle, if_neg (by rw [hno]; decide), List.nil_append, qX1_spread_145, nI_1]
      exact ih (v + 1) (by omega) A m l _ μ h0
    have go : g_ok S held x (bp_up c x v) = true → 0 < g_fac S x (g_row S x c) v → ∃ ν, eX1_spread (d + t.length + 4) 100 [some (.inr (.inr 2)), some (.inr (.inr 24)), some (.inl (nI i)), some (.inr (.inl (lN P))), none, some (.inl (nI x)), some (.inl (nI (g_row S x c))), some (.inr (.inl (lN A))), none, some (.inl (nI v)), some (.inr (.inl (lN (P * g_fac S x (g_row S x c) v)))), none, none, none] [] μ = some (some (.inr (.inl (lN (A + bp_S (g_lik S) (bp_enf S held x t c v (k + 1)))))), ν) ∧ bw_spC S (x :: t) (bp_enf S held x t c v (k + 1)) m w l μ ν := by
      intro hyes hfp
      have hc1 : ∀ cc, cc ≠ 26 → (bw_si μ 26 x (nI v)).1 cc = μ.1 cc := fun cc hcc => funext (fun j => bq_sin _ _ (by omega))
      have hH : bw_spH S held ord B t (bp_up c x v) (P * g_fac S x (g_row S x c) v) m w l (bw_si μ 26 x (nI v)) := by
        refine ⟨fr_c h1 (fun i hi => hc1 _ (by omega)), fun i hi => by rw [hc1 25 (by omega)]; exact h2 i hi, ?_, fun y hy hyt => ?_, fun y hy => ?_, ?_, fun c' hc' => ?_, Nat.mul_pos h8 hfp, hPf⟩
        · cases held with
          | none =>
            show (bw_si μ 26 x (nI v)).1 24 7 = -1
            rw [hc1 24 (by omega)]; exact h3
          | some ab =>
            obtain ⟨a, b⟩ := ab
            show (bw_si μ 26 x (nI v)).1 24 7 = nI a ∧ (bw_si μ 26 x (nI v)).1 24 8 = nI b ∧ a < 12 ∧ b < 4
            rw [hc1 24 (by omega)]; exact h3
        · by_cases hyx : y = x
          · rw [hyx, bq_sie, bp_up_eq]
          · rw [bq_sin _ _ (by omega), bp_up_ne _ hyx]
            exact h4 y hy (fun hm => by rcases List.mem_cons.1 hm with h' | h'; exact hyx h'; exact hyt h')
        · by_cases hyx : y = x
          · rw [hyx, bp_up_eq]; exact hvx
          · rw [bp_up_ne _ hyx]; exact h5 y hy
        · obtain ⟨k1, k2, k3, k4, k5, k6, k7⟩ := h6
          refine ⟨by rw [hc1 24 (by omega)]; exact k1, by rw [hc1 24 (by omega)]; exact k2, by rw [hc1 24 (by omega)]; exact k3, k4, k5, fun j hj => ⟨(k6 j hj).1, by rw [hc1 29 (by omega)]; exact (k6 j hj).2⟩, k7⟩
        · have hoff : ∀ y, y ∉ x :: t → c' y = c y := fun y hy => by
            rw [hc' y (fun h => hy (List.mem_cons_of_mem _ h)), bp_up_ne _ (fun h => hy (by rw [h]; exact List.mem_cons_self))]
          have := h7 c' hoff
          rw [List.map_cons, List.prod_cons] at this
          have hfx : g_fc S x c' = g_fac S x (g_row S x c) v := by
            rw [← hfc]
            exact g_fc_congr S x _ _ (fun p hp => hc' p (fun h => htl p hp (List.mem_cons_of_mem _ h))) (hc' x hxt)
          rw [← this, hfx, Nat.mul_assoc]
      obtain ⟨ν, e1, e2, e3, e4, e5, e6, e7⟩ := IH _ _ m w l _ hH
      have hMx : ∀ c', c' ∈ bp_en (gV S) (g_ok S held) t (bp_up c x v) → c' x = v := fun c' hc' => by
        rw [en_off _ _ _ _ _ hc' x hxt, bp_up_eq]
      have hnk := e3
      have hH2 : bw_spH S held ord B (x :: t) c P (m + (bp_en (gV S) (g_ok S held) t (bp_up c x v)).length) w ((bp_en (gV S) (g_ok S held) t (bp_up c x v)).foldl (fun l c' => bp_ins w (g_lik S c', g_num (gN S) c') l) l) (bw_sl ν 27 (4 * x + v) (ν.2 27 (4 * x + v) + lN (bp_S (g_lik S) (bp_en (gV S) (g_ok S held) t (bp_up c x v))))) := by
        refine ⟨fr_c h1 (fun i hi => ?_), fun i hi => ?_, ?_, fun y hy hyt => ?_, h5, ?_, h7, h8, by rw [List.map_cons, List.prod_cons]; exact h9⟩
        · rw [bq_sl1, e4 _ (by omega) (by omega) (by omega), hc1 _ (by omega)]
        · rw [bq_sl1, e4 _ (by omega) (by omega) (by omega), hc1 _ (by omega)]; exact h2 i hi
        · cases held with
          | none =>
            show ν.1 24 7 = -1
            rw [e5 7 (by omega) (by omega), hc1 24 (by omega)]; exact h3
          | some ab =>
            obtain ⟨a, b⟩ := ab
            show ν.1 24 7 = nI a ∧ ν.1 24 8 = nI b ∧ a < 12 ∧ b < 4
            rw [e5 7 (by omega) (by omega), e5 8 (by omega) (by omega), hc1 24 (by omega)]; exact h3
        · have hyx : y ≠ x := fun he => hyt (by rw [he]; exact List.mem_cons_self)
          rw [bq_sl1, e6 y (fun h => hyt (List.mem_cons_of_mem _ h)), bq_sin _ _ (by omega)]
          exact h4 y hy hyt
        · obtain ⟨k1, k2, k3, k4, k5, k6, k7⟩ := hnk
          exact ⟨k1, k2, k3, k4, k5, fun j hj => ⟨by rw [bq_sl2, if_neg (by omega)]; exact (k6 j hj).1, (k6 j hj).2⟩, k7⟩
      obtain ⟨τ, f1, f2, f3, f4, f5, f6, f7⟩ := ih (v + 1) (by omega) (A + bp_S (g_lik S) (bp_en (gV S) (g_ok S held) t (bp_up c x v))) (m + (bp_en (gV S) (g_ok S held) t (bp_up c x v)).length) ((bp_en (gV S) (g_ok S held) t (bp_up c x v)).foldl (fun l c' => bp_ins w (g_lik S c', g_num (gN S) c') l) l) (some (.inr (.inl (lN (P * g_fac S x (g_row S x c) v))))) (bw_sl ν 27 (4 * x + v) (ν.2 27 (4 * x + v) + lN (bp_S (g_lik S) (bp_en (gV S) (g_ok S held) t (bp_up c x v))))) hH2
      rw [hle, if_pos hyes]
      refine ⟨τ, ?_, fun y u hy hu => ?_, ?_, fun cc g1 g2 g3 => ?_, fun j g1 g2 => ?_, fun y hy => ?_, fun cc g1 g2 => ?_⟩
      · rw [qX1_spread_100, if_pos ((bq_ii (by omega)).2 (by omega)), nI_clamp (by omega), nI_1, e1, bq_L, sB_slot, bq_I]
        simp only [bq_it (show 4 * x + v < 48 by omega) (by decide)]
        rw [nI_clamp (by omega), qX1_spread_145, nI_1, lN_add, f1, bp_S_app, Nat.add_assoc]
      · rw [f2 y u hy hu, bq_sl2]
        by_cases hyx : y = x
        · subst hyx
          rw [if_pos List.mem_cons_self, if_pos List.mem_cons_self, bp_S_app]
          have hsum : bp_S (fun c' => if c' y = u then g_lik S c' else 0) (bp_en (gV S) (g_ok S held) t (bp_up c y v)) = if u = v then bp_S (g_lik S) (bp_en (gV S) (g_ok S held) t (bp_up c y v)) else 0 := by
            by_cases huv : u = v
            · rw [if_pos huv]
              exact bp_S_congr (fun c' hc' => by rw [hMx c' hc', if_pos huv.symm])
            · rw [if_neg huv]
              exact (bp_S_congr (g := fun _ => 0) (fun c' hc' => by rw [hMx c' hc', if_neg (fun h => huv h.symm)])).trans (bp_S_zero _)
          have hold : ∀ u, u < 4 → ν.2 27 (4 * y + u) = μ.2 27 (4 * y + u) := fun u hu => by
            rw [e2 y u hy hu, if_neg hxt, lN_zero, bq_si2]
          rw [hsum]
          by_cases huv : u = v
          · subst huv
            rw [if_pos ⟨rfl, rfl⟩, if_pos rfl, hold u hu, Int64.add_assoc, lN_add]
          · rw [if_neg (by omega), if_neg huv, hold u hu, Nat.zero_add]
        · rw [if_neg (by omega), e2 y u hy hu, bq_si2]
          by_cases hyt : y ∈ t
          · rw [if_pos hyt, if_pos (List.mem_cons_of_mem _ hyt), if_pos (List.mem_cons_of_mem _ hyt), bp_S_app, Int64.add_assoc, lN_add]
          · have hyc : y ∉ x :: t := fun h => by rcases List.mem_cons.1 h with h' | h'; exact hyx h'; exact hyt h'
            rw [if_neg hyt, if_neg hyc, if_neg hyc, lN_zero, lN_zero]
      · rw [List.length_append, List.foldl_append, ← Nat.add_assoc]; exact f3
      · rw [f4 cc g1 g2 g3, bq_sl1, e4 cc g1 g2 g3, hc1 cc g2]
      · rw [f5 j g1 g2, bq_sl1, e5 j g1 g2, hc1 24 (by omega)]
      · have hyx : y ≠ x := fun he => hy (by rw [he]; exact List.mem_cons_self)
        rw [f6 y hy, bq_sl1, e6 y (fun h => hy (List.mem_cons_of_mem _ h)), bq_sin _ _ (by omega)]
      · rw [f7 cc g1 g2]
        funext j
        rw [bq_sl2, if_neg (by omega), e7 cc g1 g2, bq_si2]
    by_cases hf0 : 0 < g_fac S x (g_row S x c) v
    · rw [if_neg (fun hh => by have := (pk_lLE (by omega) (by omega)).1 ((lg_cmp_le _ _).1 hh); have := Nat.mul_pos h8 hf0; omega)]
      cases held with
      | none =>
        have h3' : μ.1 24 7 = -1 := h3
        rw [h3', if_neg (fun hh => by have := nI_pos (n := x) (by omega); rw [hh] at this; exact this (by decide))]
        exact go (by rw [hok]; simp [hf0, g_held]) hf0
      | some ab =>
        obtain ⟨a, b⟩ := ab
        obtain ⟨g1, g2, g3, g4⟩ := (show μ.1 24 7 = nI a ∧ μ.1 24 8 = nI b ∧ a < 12 ∧ b < 4 from h3)
        rw [g1, g2]
        by_cases hxa : x = a
        · rw [if_pos (by rw [hxa])]
          by_cases hvb : v = b
          · rw [if_pos (by rw [hvb])]
            exact go (by rw [hok, Bool.and_eq_true]; exact ⟨decide_eq_true hf0, by simp [g_held, hvb]⟩) hf0
          · rw [if_neg (fun hh => hvb ((nI_eq (by omega) (by omega)).1 hh))]
            exact skip (by rw [hok]; simp [g_held, hxa, hvb])
        · rw [if_neg (fun hh => hxa ((nI_eq (by omega) (by omega)).1 hh))]
          exact go (by rw [hok]; simp [hf0, g_held, hxa]) hf0
    · rw [if_pos ((lg_cmp_le _ _).2 ((pk_lLE (by omega) (by omega)).2 (by rw [show g_fac S x (g_row S x c) v = 0 by omega, Nat.mul_zero]; exact Nat.le_refl _)))]
      exact skip (by rw [hok]; simp [hf0])
