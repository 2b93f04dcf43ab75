/-! PURE: the reference weighs a whole. -/
theorem bq_slsl (μ : bwM) (o j : Nat) (a b : Int64) : bw_sl (bw_sl μ o j a) o j b = bw_sl μ o j b := by
  refine Prod.ext rfl ?_
  funext c i
  show (if c = o ∧ i = j then b else if c = o ∧ i = j then a else μ.2 c i) = if c = o ∧ i = j then b else μ.2 c i
  by_cases h : c = o ∧ i = j
  · rw [if_pos h, if_pos h]
  · rw [if_neg h, if_neg h, if_neg h]
def g_pl (S : bwS) (c : Nat → Nat) (k : Nat) : Nat := ((List.range k).map (fun x => g_fc S x c)).prod
theorem g_pl_succ (S : bwS) (c : Nat → Nat) (k : Nat) : g_pl S c (k + 1) = g_pl S c k * g_fc S k c := by
  unfold g_pl
  rw [List.range_succ, List.map_append, List.prod_append, List.map_singleton, List.prod_singleton]
theorem g_pl_zero (S : bwS) (c : Nat → Nat) (k : Nat) (h : g_pl S c k = 0) (n : Nat) (hn : k ≤ n) : g_pl S c n = 0 := by
  induction hj : n - k generalizing n with
  | zero => rw [show n = k by omega]; exact h
  | succ j ih =>
    obtain ⟨m, rfl⟩ : ∃ m, n = m + 1 := ⟨n - 1, by omega⟩
    rw [g_pl_succ, ih m (by omega) (by omega), Nat.zero_mul]
theorem g_fc_le {S : bwS} (hS : bwOK S) {c : Nat → Nat} (hc : ∀ y, y < gN S → c y < gV S y) {x : Nat} (hx : x < gN S) : g_fc S x c ≤ 3 * gT S x := g_fac_le hS hx (g_row_lt hS hx hc) (hc x hx)
theorem g_pl_le {S : bwS} (hS : bwOK S) {c : Nat → Nat} (hc : ∀ y, y < gN S → c y < gV S y) (k : Nat) (hk : k ≤ gN S) : g_pl S c k ≤ 531441000000000 := by
  have key : ∀ k, k ≤ gN S → g_pl S c k ≤ 3 ^ k * bp_prod (gT S) k := by
    intro k
    induction k with
    | zero => intro _; exact Nat.le_refl _
    | succ k ih =>
      intro hk
      rw [g_pl_succ]
      refine Nat.le_trans (Nat.mul_le_mul (ih (by omega)) (g_fc_le hS hc (by omega))) ?_
      show 3 ^ k * bp_prod (gT S) k * (3 * gT S k) ≤ 3 ^ k * 3 * (bp_prod (gT S) k * gT S k)
      rw [Nat.mul_mul_mul_comm]
      exact Nat.le_refl _
  refine Nat.le_trans (key k hk) ?_
  have h1 : bp_prod (gT S) k ≤ 1000000000 := Nat.le_trans (bp_prod_mono (fun x hx => ok_t1 hS hx) k hk) (ok_pt hS)
  exact Nat.le_trans (Nat.mul_le_mul (Nat.pow_le_pow_right (by omega) (show k ≤ 12 by have := ok_n hS; omega)) h1) (by decide)
theorem g_lik_le {S : bwS} (hS : bwOK S) {c : Nat → Nat} (hc : ∀ y, y < gN S → c y < gV S y) : g_lik S c ≤ 531441000000000 := g_pl_le hS hc (gN S) (Nat.le_refl _)
theorem sM_wrow (d : Nat) {S : bwS} (hS : bwOK S) {μ : bwM} (hR : bwR' S μ) {c : Nat → Nat} (hw : bw_wh S μ c) {x : Nat} (hx : x < gN S) (x2 : Int32) (k : Nat) (hk : k ≤ (gP S x).length) (r : Nat) : eX4_weigh d 98 [some (.inr (.inr 30)), some (.inl (nI x)), some (.inl x2), some (.inl (nI r)), some (.inl (nI k))] [] μ = eX4_weigh d 98 [some (.inr (.inr 30)), some (.inl (nI x)), some (.inl x2), some (.inl (nI (((gP S x).drop k).foldl (fun r p => r * gV S p + c p) r))), some (.inl (nI (gP S x).length))] [] μ := by
  have hn := ok_n hS
  have h3 := ok_p3 hS hx
  induction hj : (gP S x).length - k generalizing k r with
  | zero =>
    have : k = (gP S x).length := by omega
    subst this
    simp
  | succ j ih =>
    have hk' : k < (gP S x).length := by omega
    have hp := ok_pk hS hx hk'
    rw [qX4_weigh_98, bq_3]
    simp only [bq_it (show x < 12 by omega) (by decide), bq_it (show 3 * x + k < 36 by omega) (by decide)]
    rw [nI_clamp (n := x) (by omega), rm_c hR hx, if_neg (nI_ge (by omega) (by omega)), nI_clamp (n := 3 * x + k) (by omega), rm_p hR hx hk']
    simp only [bq_it (show (gP S x)[k] < 12 by omega) (by decide)]
    rw [nI_clamp (by omega), rm_v hR hp, hw _ hp, pk_mul, nI_add, qX4_weigh_145, nI_1, ih (k + 1) (by omega) _ (by omega), List.drop_eq_getElem_cons hk', List.foldl_cons]
theorem sM_wstep (d : Nat) {S : bwS} (hS : bwOK S) {μ : bwM} (hR : bwR' S μ) {c : Nat → Nat} (hc : ∀ y, y < gN S → c y < gV S y) (hw : bw_wh S μ c) {x : Nat} (hx : x < gN S) (o2 : Option bwV) {A : Nat} (hA : 0 < A) (hA2 : A < 2 ^ 63) : ∃ o2' : Option bwV, eX4_weigh d 7 [some (.inr (.inr 30)), some (.inl (nI x)), o2, none, none] [] (bw_sl μ 30 14 (lN A)) = eX4_weigh d 7 [some (.inr (.inr 30)), some (.inl (nI (x + 1))), o2', none, none] [] (bw_sl μ 30 14 (lN (A * g_fc S x c))) := by
  have hn := ok_n hS
  have hv := hc x hx
  have h4 := ok_v4 hS hx
  have hF := ok_f hS hx hv
  have hT := ok_t100 hS hx
  have hrow := g_row_lt hS hx hc
  have h64 := (g_rows_pos hS hx).2
  have hW := ok_w hS hx hrow hv
  have h3 := ok_p3 hS hx
  have h14 : (bw_sl μ 30 14 (lN A)).2 30 14 = lN A := by rw [bq_sl2, if_pos ⟨rfl, rfl⟩]
  have h15 : (bw_sl μ 30 14 (lN (A * gF S x (c x)))).2 30 14 = lN (A * gF S x (c x)) := by rw [bq_sl2, if_pos ⟨rfl, rfl⟩]
  have hRs : ∀ y, bwR' S (bw_sl μ 30 14 y) := fun y => hR
  have hws : ∀ y, bw_wh S (bw_sl μ 30 14 y) c := fun y => hw
  refine ⟨some (.inl (nI (c x))), ?_⟩
  rw [qX4_weigh_7, h14, rr_n (hRs _), if_neg (nI_ge (by omega) (by omega)), if_neg (fun hh => by have := (pk_lLE (b := 0) hA2 (by omega)).1 ((lg_cmp_le _ _).1 hh); omega), if_pos ((bq_ii (by omega)).2 (by omega)), nI_clamp (n := x) (by omega), hws _ x hx, bq_4, if_pos ((bq_ii (by omega)).2 (by omega)), nI_clamp (by omega), rm_f (hRs _) hx hv, nI_l (by omega), lN_mul, bq_slsl, qX4_weigh_51]
  simp only [bq_it (show x < 12 by omega) (by decide)]
  rw [nI_clamp (by omega), rm_d (hRs _) hx, rm_t (hRs _) hx, h15]
  have g1 := bo_lt _ (ok_ds hS hx)
  have g2 := bo_eq _ (ok_ds hS hx) (v := c x) (by omega)
  have g3 := bo_lt _ (ok_ss hS hx)
  have g4 := bo_eq _ (ok_ss hS hx) (v := c x) (by omega)
  have hfin : ∀ (o3 o4 : Option bwV) (B : Nat), B = A * g_fc S x c → eX4_weigh d 200 [some (.inr (.inr 30)), some (.inl (nI x)), some (.inl (nI (c x))), o3, o4] [] (bw_sl μ 30 14 (lN B)) = eX4_weigh d 7 [some (.inr (.inr 30)), some (.inl (nI (x + 1))), some (.inl (nI (c x))), none, none] [] (bw_sl μ 30 14 (lN (A * g_fc S x c))) := fun o3 o4 B hB => by
    rw [hB, qX4_weigh_200, nI_1]
  have hfc : g_fc S x c = g_fac S x (g_row S x c) (c x) := rfl
  unfold g_fac at hfc
  cases hd : gD S x with
  | some u =>
    rw [hd] at g1 g2 hfc
    rw [if_neg (fun hh => by cases g1.1 hh)]
    by_cases hu : u = c x
    · rw [if_pos (g2.2 (by rw [hu])), qX4_weigh_86, nI_l (by omega), lN_mul, bq_slsl]
      refine hfin _ _ _ ?_
      rw [hfc]
      simp only [hu, if_true]
      rw [Nat.mul_assoc]
    · rw [if_neg (fun hh => hu (by cases g2.1 hh; rfl)), qX4_weigh_86, show Int64.ofNat 0 = lN 0 from rfl, lN_mul, bq_slsl]
      refine hfin _ _ _ ?_
      rw [hfc]
      simp only [hu, if_false]
      rw [Nat.mul_zero, Nat.mul_zero]
  | none =>
    rw [hd] at g1 hfc
    rw [if_pos (g1.2 rfl), show (0 : Int32) = nI 0 from rfl, sM_wrow d hS (hRs _) (hws _) hx (nI (c x)) 0 (by omega) 0, qX4_weigh_98]
    simp only [bq_it (show x < 12 by omega) (by decide)]
    rw [nI_clamp (by omega), rm_c (hRs _) hx, if_pos (nI_le (by omega) (by omega)), rm_s (hRs _) hx, h15, show (((gP S x).drop 0).foldl (fun r p => r * gV S p + c p) 0) = g_row S x c from rfl]
    have h179 : ∀ o4 : Int32, g_fc S x c = gF S x (c x) * gW S x (g_row S x c) (c x) → eX4_weigh d 179 [some (.inr (.inr 30)), some (.inl (nI x)), some (.inl (nI (c x))), some (.inl (nI (g_row S x c))), some (.inl o4)] [.inr (.inl (lN (A * gF S x (c x)))), .inr (.inr 30)] (bw_sl μ 30 14 (lN (A * gF S x (c x)))) = eX4_weigh d 7 [some (.inr (.inr 30)), some (.inl (nI (x + 1))), some (.inl (nI (c x))), none, none] [] (bw_sl μ 30 14 (lN (A * g_fc S x c))) := fun o4 he => by
      rw [qX4_weigh_179, bq_256, if_pos ((bq_ii (by omega)).2 (by omega)), nI_clamp (by omega), rm_w (hRs _) hx hrow hv, nI_l (by omega), qX4_weigh_196, lN_mul, bq_slsl]
      exact hfin _ _ _ (by rw [he, Nat.mul_assoc])
    cases hs : gS S x with
    | none =>
      rw [hs] at g3 hfc
      rw [if_pos (g3.2 rfl)]
      exact h179 _ hfc
    | some u =>
      rw [hs] at g3 g4 hfc
      rw [if_neg (fun hh => by cases g3.1 hh)]
      by_cases hu : u = c x
      · rw [if_pos (g4.2 (by rw [hu]))]
        refine h179 _ ?_
        rw [hfc]
        simp only [hu, if_true]
      · rw [if_neg (fun hh => hu (by cases g4.1 hh; rfl)), qX4_weigh_196, show Int64.ofNat 0 = lN 0 from rfl, lN_mul, bq_slsl]
        refine hfin _ _ _ ?_
        rw [hfc]
        simp only [hu, if_false]
        rw [Nat.mul_zero, Nat.mul_zero]
theorem sM_weigh_go (d : Nat) {S : bwS} (hS : bwOK S) {μ : bwM} (hR : bwR' S μ) {c : Nat → Nat} (hc : ∀ y, y < gN S → c y < gV S y) (hw : bw_wh S μ c) (k : Nat) (hk : k ≤ gN S) (o2 : Option bwV) : eX4_weigh d 7 [some (.inr (.inr 30)), some (.inl (nI k)), o2, none, none] [] (bw_sl μ 30 14 (lN (g_pl S c k))) = some (none, bw_sl μ 30 14 (lN (g_lik S c))) := by
  have hn := ok_n hS
  have hRs : ∀ y, bwR' S (bw_sl μ 30 14 y) := fun y => hR
  induction hj : gN S - k generalizing k o2 with
  | zero =>
    have : k = gN S := by omega
    subst this
    rw [qX4_weigh_7, rr_n (hRs _), if_pos (nI_le (by omega) (by omega))]
    rfl
  | succ j ih =>
    have hle := g_pl_le hS hc k hk
    by_cases h0 : 0 < g_pl S c k
    · obtain ⟨o2', e⟩ := sM_wstep d hS hR hc hw (x := k) (by omega) o2 h0 (by omega)
      rw [e, ← g_pl_succ]
      exact ih (k + 1) (by omega) o2' (by omega)
    · have hz : g_pl S c k = 0 := by omega
      have hl : g_lik S c = 0 := g_pl_zero S c k hz (gN S) hk
      rw [hz, hl, qX4_weigh_7, rr_n (hRs _), if_neg (nI_ge (by omega) (by omega)), if_pos]
      rw [bq_sl2, if_pos ⟨rfl, rfl⟩]
      exact (lg_cmp_le _ _).2 ((pk_lLE (a := 0) (b := 0) (by omega) (by omega)).2 (Nat.le_refl _))
/-- weigh -/
theorem sM_weigh (d : Nat) {S : bwS} (hS : bwOK S) {μ : bwM} (hR : bwR' S μ) {c : Nat → Nat} (hc : ∀ y, y < gN S → c y < gV S y) (hw : bw_wh S μ c) : bw_call (d + 1) 109 [.inr (.inr 30)] μ = some (none, bw_sl μ 30 14 (lN (g_lik S c))) := by
  rw [qX4_weigh]
  exact sM_weigh_go d hS hR hc hw 0 (by omega) none
theorem fE_sl (μ : bwM) (y : Int64) : bw_fE μ (bw_sl μ 30 14 y) := ⟨fun _ _ => rfl, fun c j h => by rw [bq_sl2, if_neg h]⟩
/-- which wholes a sum of the reference takes -/
def g_tk (p : Option (Nat × Nat)) (c : Nat → Nat) : Bool := match p with
  | none => true
  | some (x, v) => c x == v
/-- how the arguments of sum and worthOf say it -/
def bw_pr (S : bwS) (p : Option (Nat × Nat)) (x v : Int32) : Prop := match p with
  | none => x = -1
  | some (a, b) => x = nI a ∧ v = nI b ∧ a < gN S ∧ b < gV S a
theorem bp_S_cons (f : (Nat → Nat) → Nat) (c : Nat → Nat) (t : List (Nat → Nat)) : bp_S f (c :: t) = f c + bp_S f t := by unfold bp_S; rw [List.map_cons, List.sum_cons]
theorem bq_m1 : (-1 : Int32) < 0 := by decide
theorem sM_sum_body (d : Nat) {S : bwS} (hS : bwOK S) {p q : Option (Nat × Nat)} {x1 x2 x3 x4 : Int32} (hp : bw_pr S p x1 x2) (hq : bw_pr S q x3 x4) (c : Nat → Nat) (hc : ∀ y, y < gN S → c y < gV S y) (A : Nat) (μ : bwM) (hR : bwR' S μ) (hw : bw_wh S μ c) : ∃ ν, eX4_sum (d + 1) 10 [some (.inr (.inr 30)), some (.inl x1), some (.inl x2), some (.inl x3), some (.inl x4), some (.inr (.inl (lN A))), none, some (.inl 1)] [] μ = eX4_sum (d + 1) 57 [some (.inr (.inr 30)), some (.inl x1), some (.inl x2), some (.inl x3), some (.inl x4), some (.inr (.inl (lN (A + (if (g_tk p c && g_tk q c) = true then g_lik S c else 0))))), none, some (.inl 1)] [] ν ∧ bw_fE μ ν ∧ bw_wh S ν c := by
  have hn := ok_n hS
  have h44 : eX4_sum (d + 1) 44 [some (.inr (.inr 30)), some (.inl x1), some (.inl x2), some (.inl x3), some (.inl x4), some (.inr (.inl (lN A))), none, some (.inl 1)] [] μ = eX4_sum (d + 1) 57 [some (.inr (.inr 30)), some (.inl x1), some (.inl x2), some (.inl x3), some (.inl x4), some (.inr (.inl (lN (A + g_lik S c)))), none, some (.inl 1)] [] (bw_sl μ 30 14 (lN (g_lik S c))) := by
    rw [qX4_sum_44, sM_weigh d hS hR hc hw, bq_V, bq_sl2, if_pos ⟨rfl, rfl⟩, lN_add]
  have h29 : ∃ ν, eX4_sum (d + 1) 29 [some (.inr (.inr 30)), some (.inl x1), some (.inl x2), some (.inl x3), some (.inl x4), some (.inr (.inl (lN A))), none, some (.inl 1)] [] μ = eX4_sum (d + 1) 57 [some (.inr (.inr 30)), some (.inl x1), some (.inl x2), some (.inl x3), some (.inl x4), some (.inr (.inl (lN (A + (if g_tk q c = true then g_lik S c else 0))))), none, some (.inl 1)] [] ν ∧ bw_fE μ ν ∧ bw_wh S ν c := by
    rw [qX4_sum_29]
    cases q with
    | none =>
      have : x3 = -1 := hq
      subst this
      rw [if_pos bq_m1]
      exact ⟨_, h44, fE_sl μ _, hw⟩
    | some ab =>
      obtain ⟨a, b⟩ := ab
      obtain ⟨rfl, rfl, ha, hb⟩ := (show x3 = nI a ∧ x4 = nI b ∧ a < gN S ∧ b < gV S a from hq)
      have h4 := ok_v4 hS ha
      have hca := hc a ha
      rw [if_neg (nI_pos (by omega)), if_pos ((bq_ii (by omega)).2 (by omega)), nI_clamp (by omega), hw a ha]
      by_cases he : c a = b
      · rw [if_pos (by rw [he]), if_pos (by simp [g_tk, he])]
        exact ⟨_, h44, fE_sl μ _, hw⟩
      · rw [if_neg (fun hh => he ((nI_eq (by omega) (by omega)).1 hh)), if_neg (by simp [g_tk, he]), Nat.add_zero]
        exact ⟨μ, rfl, fE_refl μ, hw⟩
  rw [qX4_sum_10, if_neg bq_ne10]
  cases p with
  | none =>
    have : x1 = -1 := hp
    subst this
    rw [if_pos bq_m1]
    exact h29
  | some ab =>
    obtain ⟨a, b⟩ := ab
    obtain ⟨rfl, rfl, ha, hb⟩ := (show x1 = nI a ∧ x2 = nI b ∧ a < gN S ∧ b < gV S a from hp)
    have h4 := ok_v4 hS ha
    have hca := hc a ha
    rw [if_neg (nI_pos (by omega)), if_pos ((bq_ii (by omega)).2 (by omega)), nI_clamp (by omega), hw a ha]
    by_cases he : c a = b
    · rw [if_pos (by rw [he]), show g_tk (some (a, b)) c = true by simp [g_tk, he], Bool.true_and]
      exact h29
    · rw [if_neg (fun hh => he ((nI_eq (by omega) (by omega)).1 hh)), if_neg (by simp [g_tk, he]), Nat.add_zero]
      exact ⟨μ, rfl, fE_refl μ, hw⟩
theorem sM_sum_go (d : Nat) {S : bwS} (hS : bwOK S) {p q : Option (Nat × Nat)} {x1 x2 x3 x4 : Int32} (hp : bw_pr S p x1 x2) (hq : bw_pr S q x3 x4) (t : List (Nat → Nat)) (c b : Nat → Nat) (hpt : bp_pt (bp_nxt (gV S) (gN S)) c t b) (hb : bp_nxt (gV S) (gN S) b = none) (hall : ∀ c', c' ∈ c :: t → ∀ y, y < gN S → c' y < gV S y) (A : Nat) (μ : bwM) (hR : bwR' S μ) (hw : bw_wh S μ c) : ∃ ν, eX4_sum (d + 1) 10 [some (.inr (.inr 30)), some (.inl x1), some (.inl x2), some (.inl x3), some (.inl x4), some (.inr (.inl (lN A))), none, some (.inl 1)] [] μ = some (some (.inr (.inl (lN (A + bp_S (fun c => if (g_tk p c && g_tk q c) = true then g_lik S c else 0) (c :: t))))), ν) ∧ bw_fE μ ν := by
  induction t generalizing c A μ with
  | nil =>
    have hc := hall c List.mem_cons_self
    obtain ⟨ν, e1, e2, e3⟩ := sM_sum_body d hS hp hq c hc A μ hR hw
    obtain ⟨τ, f1, f2⟩ := sM_next d hS c (fun x hx => by have := hc x hx; have := ok_v4 hS hx; omega) (fE_r e2 hR) e3
    have hcb : c = b := hpt
    rw [hcb] at f2
    rcases f2 with ⟨_, f2⟩ | ⟨c', f2, _⟩
    · refine ⟨τ, ?_, fE_trans e2 f1⟩
      rw [e1, qX4_sum_57, f2, bq_I, qX4_sum_10, if_pos rfl, bp_S_one]
    · rw [hb] at f2; cases f2
  | cons c1 t ih =>
    have hc := hall c List.mem_cons_self
    obtain ⟨ν, e1, e2, e3⟩ := sM_sum_body d hS hp hq c hc A μ hR hw
    obtain ⟨τ, f1, f2⟩ := sM_next d hS c (fun x hx => by have := hc x hx; have := ok_v4 hS hx; omega) (fE_r e2 hR) e3
    rw [hpt.1] at f2
    rcases f2 with ⟨f2, _⟩ | ⟨c', f2, f3, f4⟩
    · cases f2
    · cases f2
      obtain ⟨π, g1, g2⟩ := ih c1 hpt.2 (fun c' hc' => hall c' (List.mem_cons_of_mem _ hc')) (A + (if (g_tk p c && g_tk q c) = true then g_lik S c else 0)) τ (fE_r (fE_trans e2 f1) hR) f3
      refine ⟨π, ?_, fE_trans (fE_trans e2 f1) g2⟩
      rw [e1, qX4_sum_57, f4, bq_I, g1, bp_S_cons _ c, Nat.add_assoc]
/-- sum -/
theorem sM_sum (d : Nat) {S : bwS} (hS : bwOK S) {p q : Option (Nat × Nat)} {x1 x2 x3 x4 : Int32} (hp : bw_pr S p x1 x2) (hq : bw_pr S q x3 x4) {μ : bwM} (hR : bwR' S μ) : ∃ ν, bw_call (d + 2) 110 [.inr (.inr 30), .inl x1, .inl x2, .inl x3, .inl x4] μ = some (some (.inr (.inl (lN (bp_S (fun c => if (g_tk p c && g_tk q c) = true then g_lik S c else 0) (g_all S))))), ν) ∧ bw_fE μ ν := by
  obtain ⟨ν, e1, e2, e3⟩ := sM_first d hS hR
  obtain ⟨t, b, f1, f2, f3⟩ := g_all_path hS
  obtain ⟨τ, g1, g2⟩ := sM_sum_go d hS hp hq t _ b f2 f3 (fun c' hc' => ((g_all_mem S c').1 (by rw [f1]; exact hc')).2) 0 ν (fE_r e3 hR) e2
  refine ⟨τ, ?_, fE_trans e3 g2⟩
  rw [qX4_sum, e1, bq_V, show Int64.ofNat 0 = lN 0 from rfl, g1, f1, Nat.zero_add]
/-- all -/
theorem sM_all (d : Nat) {S : bwS} (hS : bwOK S) {μ : bwM} (hR : bwR' S μ) : ∃ ν, bw_call (d + 3) 111 [.inr (.inr 30)] μ = some (some (.inr (.inl (lN (bp_S (g_lik S) (g_all S))))), ν) ∧ bw_fE μ ν := by
  obtain ⟨ν, e1, e2⟩ := sM_sum d hS (p := none) (q := none) (x2 := 0) (x4 := 0) rfl rfl hR
  exact ⟨ν, by rw [qX4_all, e1, bq_L]; rfl, e2⟩
