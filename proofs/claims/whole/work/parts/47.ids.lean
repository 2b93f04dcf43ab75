/-! PURE: the sums of the class are those of the reference; how great they can be. -/
theorem bp_S_perm {f : (Nat → Nat) → Nat} {a b : List (Nat → Nat)} (h : a.Perm b) : bp_S f a = bp_S f b := (h.map f).sum_nat
theorem bp_SI_perm {f : (Nat → Nat) → Int} {a b : List (Nat → Nat)} (h : a.Perm b) : bp_SI f a = bp_SI f b := by
  induction h with
  | nil => rfl
  | cons x _ ih => rw [bp_SI_cons, bp_SI_cons, ih]
  | swap x y l => rw [bp_SI_cons, bp_SI_cons, bp_SI_cons, bp_SI_cons]; omega
  | trans _ _ ih1 ih2 => exact ih1.trans ih2
theorem bp_S_filter (f : (Nat → Nat) → Nat) (p : (Nat → Nat) → Bool) (l : List (Nat → Nat)) : bp_S f (l.filter p) = bp_S (fun c => if p c = true then f c else 0) l := by
  induction l with
  | nil => rfl
  | cons a t ih =>
    by_cases h : p a = true
    · rw [List.filter_cons_of_pos h, bp_S_cons, bp_S_cons, if_pos h, ih]
    · rw [List.filter_cons_of_neg h, bp_S_cons, if_neg h, ih, Nat.zero_add]
theorem bp_SI_filter (f : (Nat → Nat) → Int) (p : (Nat → Nat) → Bool) (l : List (Nat → Nat)) : bp_SI f (l.filter p) = bp_SI (fun c => if p c = true then f c else 0) l := by
  induction l with
  | nil => rfl
  | cons a t ih =>
    by_cases h : p a = true
    · rw [List.filter_cons_of_pos h, bp_SI_cons, bp_SI_cons, if_pos h, ih]
    · rw [List.filter_cons_of_neg h, bp_SI_cons, if_neg h, ih, Int.zero_add]
theorem bp_SI_congr {f g : (Nat → Nat) → Int} {l : List (Nat → Nat)} (h : ∀ c, c ∈ l → f c = g c) : bp_SI f l = bp_SI g l := by unfold bp_SI; rw [List.map_congr_left h]
def g_hok (S : bwS) (held : Option (Nat × Nat)) : Prop := ∀ a b, held = some (a, b) → a < gN S
theorem met_S {S : bwS} {held : Option (Nat × Nat)} {ord : List Nat} (ho : g_ord S ord) (hh : g_hok S held) (f : (Nat → Nat) → Nat) (hf : ∀ c, g_lik S c = 0 → f c = 0) : bp_S f (g_met S held ord) = bp_S (fun c => if g_tk held c = true then f c else 0) (g_all S) := by
  rw [bp_S_perm (g_met_perm S held ord ho hh), bp_S_filter]
  refine bp_S_congr (fun c _ => ?_)
  have htk : g_hc held c = g_tk held c := rfl
  rw [htk]
  by_cases h0 : 0 < g_lik S c
  · rw [decide_eq_true h0, Bool.true_and]
  · rw [decide_eq_false h0, Bool.false_and, if_neg (by decide), hf c (by omega)]
    split <;> rfl
theorem met_SI {S : bwS} {held : Option (Nat × Nat)} {ord : List Nat} (ho : g_ord S ord) (hh : g_hok S held) (f : (Nat → Nat) → Int) (hf : ∀ c, g_lik S c = 0 → f c = 0) : bp_SI f (g_met S held ord) = bp_SI (fun c => if g_tk held c = true then f c else 0) (g_all S) := by
  rw [bp_SI_perm (g_met_perm S held ord ho hh), bp_SI_filter]
  refine bp_SI_congr (fun c _ => ?_)
  have htk : g_hc held c = g_tk held c := rfl
  rw [htk]
  by_cases h0 : 0 < g_lik S c
  · rw [decide_eq_true h0, Bool.true_and]
  · rw [decide_eq_false h0, Bool.false_and, if_neg (by decide), hf c (by omega)]
    split <;> rfl
theorem met_mem {S : bwS} {held : Option (Nat × Nat)} {ord : List Nat} (ho : g_ord S ord) (hh : g_hok S held) {c : Nat → Nat} (hc : c ∈ g_met S held ord) : ∀ y, y < gN S → c y < gV S y := by
  have := (g_met_perm S held ord ho hh).mem_iff.1 hc
  exact ((g_all_mem S c).1 (List.mem_filter.1 this).1).2
theorem isum_add (f g : Nat → Int) (n : Nat) : bp_isum (fun x => f x + g x) n = bp_isum f n + bp_isum g n := by
  induction n with
  | zero => rfl
  | succ n ih => rw [bp_isum, bp_isum, bp_isum, ih]; omega
theorem isum_congr {f g : Nat → Int} (n : Nat) (h : ∀ x, x < n → f x = g x) : bp_isum f n = bp_isum g n := by
  induction n with
  | zero => rfl
  | succ n ih => rw [bp_isum, bp_isum, ih (fun x hx => h x (by omega)), h n (by omega)]
theorem isum_mul (f : Nat → Int) (k : Int) (n : Nat) : bp_isum (fun x => f x * k) n = bp_isum f n * k := by
  induction n with
  | zero => rw [bp_isum, bp_isum, Int.zero_mul]
  | succ n ih => rw [bp_isum, bp_isum, ih, Int.add_mul]
theorem isum_zero (n : Nat) : bp_isum (fun _ => 0) n = 0 := by
  induction n with
  | zero => rfl
  | succ n ih => rw [bp_isum, ih]; rfl
theorem isum_one (f : Nat → Int) (L : Int) (a m : Nat) : bp_isum (fun v => f v * (if a = v then L else 0)) m = if a < m then f a * L else 0 := by
  induction m with
  | zero => rw [bp_isum, if_neg (by omega)]
  | succ m ih =>
    rw [bp_isum, ih]
    by_cases h1 : a < m
    · rw [if_pos h1, if_neg (show ¬ a = m by omega), if_pos (show a < m + 1 by omega), Int.mul_zero, Int.add_zero]
    · by_cases h2 : a = m
      · rw [if_neg h1, if_pos h2, if_pos (by omega), Int.zero_add, h2]
      · rw [if_neg h1, if_neg h2, if_neg (by omega), Int.mul_zero, Int.add_zero]
/-- the class's worth out of shares -/
def g_ws (S : bwS) (o : Nat) (sh : Nat → Nat → Nat) (n : Nat) : Int := bp_isum (fun x => bp_isum (fun v => (gU S o x v).toInt * (sh x v : Int)) (gV S x)) n
def g_sh (S : bwS) (M : List (Nat → Nat)) (x v : Nat) : Nat := bp_S (fun c => if c x = v then g_lik S c else 0) M
theorem ws_eq {S : bwS} {o : Nat} {M : List (Nat → Nat)} (hM : ∀ c, c ∈ M → ∀ y, y < gN S → c y < gV S y) : g_ws S o (g_sh S M) (gN S) = bp_SI (fun c => g_u S o c (gN S) * (g_lik S c : Int)) M := by
  induction M with
  | nil =>
    rw [bp_SI_nil]
    unfold g_ws
    rw [isum_congr (g := fun _ => 0) (gN S) (fun x _ => by
      rw [isum_congr (g := fun _ => 0) (gV S x) (fun v _ => by
        show (gU S o x v).toInt * ((bp_S (fun c => if c x = v then g_lik S c else 0) [] : Nat) : Int) = 0
        rw [bp_S_nil]
        exact Int.mul_zero _), isum_zero]), isum_zero]
  | cons c t ih =>
    rw [bp_SI_cons, ← ih (fun c' hc' => hM c' (List.mem_cons_of_mem _ hc'))]
    have hc := hM c List.mem_cons_self
    unfold g_ws g_u
    rw [← isum_mul, ← isum_add]
    refine isum_congr _ (fun x hx => ?_)
    have : (gU S o x (c x)).toInt * (g_lik S c : Int) = bp_isum (fun v => (gU S o x v).toInt * (if c x = v then (g_lik S c : Int) else 0)) (gV S x) := by
      rw [isum_one (fun v => (gU S o x v).toInt), if_pos (hc x hx)]
    show _ = (gU S o x (c x)).toInt * (g_lik S c : Int) + _
    rw [this, ← isum_add]
    refine isum_congr _ (fun v _ => ?_)
    rw [← Int.mul_add]
    congr 1
    unfold g_sh
    rw [bp_S_cons, Int.natCast_add]
    congr 1
    split <;> rfl
/-- a sum over all wholes stays at or under the bound -/
theorem sum_fac_le {S : bwS} (hS : bwOK S) (hs : g_sound S) {x r : Nat} (hx : x < gN S) (hr : r < g_rows S x) : bp_sum (fun v => g_fac S x r v) (gV S x) ≤ 3 * gT S x := by
  have one : ∀ (u k : Nat) (f : Nat → Nat), bp_sum (fun v => if u = v then f v else 0) k ≤ if u < k then f u else 0 := by
    intro u k f
    induction k with
    | zero => exact Nat.zero_le _
    | succ k ih =>
      show bp_sum (fun v => if u = v then f v else 0) k + (if u = k then f k else 0) ≤ _
      by_cases h1 : u < k
      · rw [if_pos h1] at ih
        rw [if_neg (by omega), if_pos (by omega)]
        omega
      · rw [if_neg h1] at ih
        by_cases h2 : u = k
        · subst h2
          rw [if_pos rfl, if_pos (by omega)]
          omega
        · rw [if_neg h2, if_neg (by omega)]
          omega
  have le3 : ∀ k, k ≤ gV S x → bp_sum (fun v => gF S x v * gW S x r v) k ≤ 3 * bp_sum (gW S x r) k := by
    intro k
    induction k with
    | zero => intro _; exact Nat.zero_le _
    | succ k ih =>
      intro hk
      have h1 := ih (by omega)
      have h2 : gF S x k * gW S x r k ≤ 3 * gW S x r k := Nat.mul_le_mul_right _ (ok_f hS hx (by omega))
      show bp_sum (fun v => gF S x v * gW S x r v) k + gF S x k * gW S x r k ≤ 3 * (bp_sum (gW S x r) k + gW S x r k)
      omega
  have mono : ∀ (f g : Nat → Nat) (k : Nat), (∀ v, v < k → f v ≤ g v) → bp_sum f k ≤ bp_sum g k := by
    intro f g k
    induction k with
    | zero => intro _; exact Nat.le_refl _
    | succ k ih =>
      intro h
      exact Nat.add_le_add (ih (fun v hv => h v (by omega))) (h k (by omega))
  unfold g_fac
  cases hd : gD S x with
  | some u =>
    refine Nat.le_trans (one u (gV S x) (fun v => gF S x v * gT S x)) ?_
    by_cases hu : u < gV S x
    · rw [if_pos hu]
      exact Nat.mul_le_mul_right _ (ok_f hS hx hu)
    · rw [if_neg hu]; exact Nat.zero_le _
  | none =>
    have hst := hs.2 x hx hd r hr
    have h3 := le3 (gV S x) (Nat.le_refl _)
    rw [hst] at h3
    cases gS S x with
    | none => exact h3
    | some u =>
      refine Nat.le_trans (mono _ _ _ (fun v hv => ?_)) h3
      show (if u = v then gF S x v * gW S x r v else 0) ≤ gF S x v * gW S x r v
      split
      · exact Nat.le_refl _
      · exact Nat.zero_le _
theorem en_sum_le {S : bwS} (hS : bwOK S) (hs : g_sound S) (held : Option (Nat × Nat)) (l : List Nat) (hnd : l.Nodup) (htl : bp_tl S l) (hlt : ∀ y, y ∈ l → y < gN S) (c : Nat → Nat) (hc : ∀ y, y < gN S → c y < gV S y) : bp_S (fun c' => (l.map (fun x => g_fc S x c')).prod) (bp_en (gV S) (g_ok S held) l c) ≤ (l.map (fun x => 3 * gT S x)).prod := by
  induction l generalizing c with
  | nil =>
    rw [bp_en, bp_S_one]
    exact Nat.le_refl _
  | cons x t ih =>
    have hx : x < gN S := hlt x List.mem_cons_self
    have hxt : x ∉ t := (List.nodup_cons.1 hnd).1
    have hrow : g_row S x c < g_rows S x := g_row_lt hS hx hc
    rw [List.map_cons, List.prod_cons]
    have hP : ∀ v, v < gV S x → bp_S (fun c' => ((x :: t).map (fun x => g_fc S x c')).prod) (if g_ok S held x (bp_up c x v) = true then bp_en (gV S) (g_ok S held) t (bp_up c x v) else []) ≤ g_fac S x (g_row S x c) v * (t.map (fun x => 3 * gT S x)).prod := by
      intro v hv
      by_cases ho : g_ok S held x (bp_up c x v) = true
      · rw [if_pos ho]
        have hih := ih (List.nodup_cons.1 hnd).2 htl.2 (fun y hy => hlt y (List.mem_cons_of_mem _ hy)) (bp_up c x v) (fun y hy => by
          by_cases hyx : y = x
          · rw [hyx, bp_up_eq]; exact hv
          · rw [bp_up_ne _ hyx]; exact hc y hy)
        have hcg : bp_S (fun c' => ((x :: t).map (fun x => g_fc S x c')).prod) (bp_en (gV S) (g_ok S held) t (bp_up c x v)) = bp_S (fun c' => g_fac S x (g_row S x c) v * (t.map (fun x => g_fc S x c')).prod) (bp_en (gV S) (g_ok S held) t (bp_up c x v)) := by
          refine bp_S_congr (fun c' hc' => ?_)
          have hoff := en_off _ _ _ _ _ hc'
          rw [List.map_cons, List.prod_cons]
          congr 1
          unfold g_fc
          rw [hoff x hxt, bp_up_eq]
          congr 1
          refine g_row_congr S x _ _ (fun p hp => ?_)
          rw [hoff p (fun h => htl.1 p hp (List.mem_cons_of_mem _ h)), bp_up_ne _ (fun h => htl.1 p hp (by rw [h]; exact List.mem_cons_self))]
        rw [hcg]
        have hmul : ∀ (k : Nat) (f : (Nat → Nat) → Nat) (l : List (Nat → Nat)), bp_S (fun c' => k * f c') l = k * bp_S f l := by
          intro k f l
          induction l with
          | nil => rw [bp_S_nil, bp_S_nil, Nat.mul_zero]
          | cons a l ih => rw [bp_S_cons, bp_S_cons, ih, Nat.mul_add]
        rw [hmul]
        exact Nat.mul_le_mul_left _ hih
      · rw [if_neg ho, bp_S_nil]
        exact Nat.zero_le _
    have hsum : ∀ k, k ≤ gV S x → bp_S (fun c' => ((x :: t).map (fun x => g_fc S x c')).prod) ((List.range k).flatMap (fun v => if g_ok S held x (bp_up c x v) = true then bp_en (gV S) (g_ok S held) t (bp_up c x v) else [])) ≤ bp_sum (fun v => g_fac S x (g_row S x c) v) k * (t.map (fun x => 3 * gT S x)).prod := by
      intro k
      induction k with
      | zero => intro _; exact Nat.zero_le _
      | succ k ihk =>
        intro hk
        rw [List.range_succ, List.flatMap_append, bp_S_app, List.flatMap_cons, List.flatMap_nil, List.append_nil]
        show _ ≤ (bp_sum (fun v => g_fac S x (g_row S x c) v) k + g_fac S x (g_row S x c) k) * _
        rw [Nat.add_mul]
        exact Nat.add_le_add (ihk (by omega)) (hP k (by omega))
    rw [bp_en]
    exact Nat.le_trans (hsum (gV S x) (Nat.le_refl _)) (Nat.mul_le_mul_right _ (sum_fac_le hS hs hx hrow))
/-- an order there is: parents first -/
theorem ord_ex {S : bwS} (hS : bwOK S) : ∃ ord, g_ord S ord := by
  have key : ∀ k, k ≤ gN S → ∃ l, bp_rv S l ∧ k ≤ l.length := by
    intro k
    induction k with
    | zero => intro _; exact ⟨[], trivial, Nat.zero_le _⟩
    | succ k ih =>
      intro hk
      obtain ⟨l, h1, h2⟩ := ih (by omega)
      by_cases hl : k + 1 ≤ l.length
      · exact ⟨l, h1, hl⟩
      · have : ∃ x, x < gN S ∧ x ∉ l := by
          refine Classical.byContradiction (fun hn => ?_)
          have := List.Nodup.length_le_of_subset (List.nodup_range (n := gN S)) (l₂ := l) (fun x hx => Classical.byContradiction (fun hxl => hn ⟨x, List.mem_range.1 hx, hxl⟩))
          rw [List.length_range] at this
          omega
        obtain ⟨x, hx, hxl⟩ := this
        obtain ⟨y, hy, hyl, hyp⟩ := rv_next S hS l x hx hxl
        exact ⟨y :: l, ⟨⟨hy, hyl, hyp⟩, h1⟩, by rw [List.length_cons]; omega⟩
  obtain ⟨l, h1, h2⟩ := key (gN S) (Nat.le_refl _)
  exact ⟨l.reverse, rv_ord S l h1 (rv_full S l h1 h2)⟩
theorem all_le {S : bwS} (hS : bwOK S) (hs : g_sound S) : bp_S (g_lik S) (g_all S) ≤ 531441000000000 := by
  obtain ⟨ord, ho⟩ := ord_ex hS
  have h1 := met_S (held := none) ho (fun a b h => by cases h) (g_lik S) (fun _ h => h)
  have h2 : bp_S (g_lik S) (g_all S) = bp_S (fun c => if g_tk none c = true then g_lik S c else 0) (g_all S) := bp_S_congr (fun c _ => rfl)
  rw [h2, ← h1]
  unfold g_met
  have h3 := en_sum_le hS hs none ord ho.1 ho.2.2 (fun y hy => (ho.2.1 y).1 hy) (fun _ => 0) (fun y hy => by show 0 < gV S y; have := ok_v2 hS hy; omega)
  rw [bp_S_congr (fun c _ => g_lik_ord ord ho c)] at h3
  exact Nat.le_trans h3 (bp_bound hS ord ho)
