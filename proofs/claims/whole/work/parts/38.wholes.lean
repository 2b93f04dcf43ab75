/-! PURE: the wholes as lists; those that the class meets are those of the reference above 0. -/
def g_fc (S : bwS) (x : Nat) (c : Nat → Nat) : Nat := g_fac S x (g_row S x c) (c x)
def g_lik (S : bwS) (c : Nat → Nat) : Nat := ((List.range (gN S)).map (fun x => g_fc S x c)).prod
def bp_en (V : Nat → Nat) (ok : Nat → (Nat → Nat) → Bool) : List Nat → (Nat → Nat) → List (Nat → Nat)
  | [], c => [c]
  | x :: t, c => (List.range (V x)).flatMap (fun v => if ok x (bp_up c x v) = true then bp_en V ok t (bp_up c x v) else [])
def bp_loc (ok : Nat → (Nat → Nat) → Bool) : List Nat → Prop
  | [] => True
  | x :: t => (∀ c1 c2 : Nat → Nat, (∀ y, y ∉ t → c1 y = c2 y) → ok x c1 = ok x c2) ∧ bp_loc ok t
theorem en_off (V : Nat → Nat) (ok : Nat → (Nat → Nat) → Bool) (l : List Nat) (c c' : Nat → Nat) (h : c' ∈ bp_en V ok l c) : ∀ y, y ∉ l → c' y = c y := by
  induction l generalizing c with
  | nil =>
    intro y _
    rw [bp_en, List.mem_singleton] at h
    rw [h]
  | cons x t ih =>
    intro y hy
    rw [bp_en, List.mem_flatMap] at h
    obtain ⟨v, _, hv⟩ := h
    by_cases ho : ok x (bp_up c x v) = true
    · rw [if_pos ho] at hv
      rw [ih _ hv y (fun h => hy (List.mem_cons_of_mem _ h)), bp_up_ne _ (fun h => hy (by rw [h]; exact List.mem_cons_self))]
    · rw [if_neg ho] at hv
      simp at hv
theorem en_mem (V : Nat → Nat) (ok : Nat → (Nat → Nat) → Bool) (l : List Nat) (hnd : l.Nodup) (hloc : bp_loc ok l) (c c' : Nat → Nat) : c' ∈ bp_en V ok l c ↔ (∀ y, y ∉ l → c' y = c y) ∧ (∀ y, y ∈ l → c' y < V y) ∧ (∀ y, y ∈ l → ok y c' = true) := by
  induction l generalizing c with
  | nil =>
    rw [bp_en, List.mem_singleton]
    refine ⟨fun h => ?_, fun h => ?_⟩
    · rw [h]
      exact ⟨fun _ _ => rfl, fun y hy => by simp at hy, fun y hy => by simp at hy⟩
    · funext y
      exact h.1 y (by simp)
  | cons x t ih =>
    have hx : x ∉ t := (List.nodup_cons.1 hnd).1
    have ih' := ih (List.nodup_cons.1 hnd).2 hloc.2
    rw [bp_en, List.mem_flatMap]
    refine ⟨fun ⟨v, hv, h⟩ => ?_, fun ⟨h1, h2, h3⟩ => ?_⟩
    · rw [List.mem_range] at hv
      by_cases ho : ok x (bp_up c x v) = true
      · rw [if_pos ho, ih'] at h
        obtain ⟨h1, h2, h3⟩ := h
        have hcx : c' x = v := by rw [h1 x hx, bp_up_eq]
        refine ⟨fun y hy => ?_, fun y hy => ?_, fun y hy => ?_⟩
        · rw [h1 y (fun h => hy (List.mem_cons_of_mem _ h)), bp_up_ne _ (fun h => hy (by rw [h]; exact List.mem_cons_self))]
        · rcases List.mem_cons.1 hy with h | h
          · rw [h, hcx]; exact hv
          · exact h2 y h
        · rcases List.mem_cons.1 hy with h | h
          · rw [h, hloc.1 c' (bp_up c x v) h1]; exact ho
          · exact h3 y h
      · rw [if_neg ho] at h
        simp at h
    · refine ⟨c' x, List.mem_range.2 (h2 x List.mem_cons_self), ?_⟩
      have hoff : ∀ y, y ∉ t → c' y = bp_up c x (c' x) y := fun y hy => by
        by_cases hyx : y = x
        · rw [hyx, bp_up_eq]
        · rw [bp_up_ne _ hyx]
          exact h1 y (fun h => by rcases List.mem_cons.1 h with h' | h'; exact hyx h'; exact hy h')
      rw [if_pos (by rw [← hloc.1 _ _ hoff]; exact h3 x List.mem_cons_self), ih']
      exact ⟨hoff, fun y hy => h2 y (List.mem_cons_of_mem _ hy), fun y hy => h3 y (List.mem_cons_of_mem _ hy)⟩
theorem en_nodup (V : Nat → Nat) (ok : Nat → (Nat → Nat) → Bool) (l : List Nat) (hnd : l.Nodup) (c : Nat → Nat) : (bp_en V ok l c).Nodup := by
  induction l generalizing c with
  | nil => rw [bp_en]; simp
  | cons x t ih =>
    have hx : x ∉ t := (List.nodup_cons.1 hnd).1
    rw [bp_en]
    refine List.pairwise_flatMap.2 ⟨fun v _ => ?_, ?_⟩
    · by_cases ho : ok x (bp_up c x v) = true
      · rw [if_pos ho]; exact ih (List.nodup_cons.1 hnd).2 _
      · rw [if_neg ho]; exact List.nodup_nil
    · refine List.Pairwise.imp ?_ List.pairwise_lt_range
      intro v w hvw a ha b hb hab
      have key : ∀ v a, a ∈ (if ok x (bp_up c x v) = true then bp_en V ok t (bp_up c x v) else []) → a x = v := by
        intro v a ha
        by_cases ho : ok x (bp_up c x v) = true
        · rw [if_pos ho] at ha
          rw [en_off V ok t _ a ha x hx, bp_up_eq]
        · rw [if_neg ho] at ha
          simp at ha
      have h1 := key v a ha
      have h2 := key w b hb
      rw [hab] at h1
      omega
theorem bp_prod_pos_iff (l : List Nat) : 0 < l.prod ↔ ∀ x, x ∈ l → 0 < x := by
  induction l with
  | nil => simp
  | cons a t ih =>
    rw [List.prod_cons]
    refine ⟨fun h x hx => ?_, fun h => Nat.mul_pos (h a List.mem_cons_self) (ih.2 (fun x hx => h x (List.mem_cons_of_mem _ hx)))⟩
    rcases List.mem_cons.1 hx with h' | h'
    · rw [h']
      exact Nat.pos_of_ne_zero (fun h0 => by rw [h0, Nat.zero_mul] at h; omega)
    · exact ih.1 (Nat.pos_of_ne_zero (fun h0 => by rw [h0, Nat.mul_zero] at h; omega)) x h'

/-- no parent of a thing in the rest of the list, nor the thing itself -/
def bp_tl (S : bwS) : List Nat → Prop
  | [] => True
  | x :: t => (∀ p, p ∈ gP S x → p ∉ x :: t) ∧ bp_tl S t
theorem g_row_congr (S : bwS) (x : Nat) (c1 c2 : Nat → Nat) (h : ∀ p, p ∈ gP S x → c1 p = c2 p) : g_row S x c1 = g_row S x c2 := by
  unfold g_row
  have : ∀ (l : List Nat), (∀ p, p ∈ l → c1 p = c2 p) → ∀ r, l.foldl (fun r p => r * gV S p + c1 p) r = l.foldl (fun r p => r * gV S p + c2 p) r := by
    intro l
    induction l with
    | nil => intro _ r; rfl
    | cons p t ih =>
      intro hl r
      rw [List.foldl_cons, List.foldl_cons, hl p List.mem_cons_self]
      exact ih (fun q hq => hl q (List.mem_cons_of_mem _ hq)) _
  exact this _ h 0
theorem g_fc_congr (S : bwS) (x : Nat) (c1 c2 : Nat → Nat) (h : ∀ p, p ∈ gP S x → c1 p = c2 p) (hx : c1 x = c2 x) : g_fc S x c1 = g_fc S x c2 := by
  unfold g_fc
  rw [g_row_congr S x c1 c2 h, hx]
/-- what a survey goes into: a factor above 0, and the held value -/
def g_held (held : Option (Nat × Nat)) (x v : Nat) : Bool := match held with
  | none => true
  | some (a, b) => x != a || v == b
def g_ok (S : bwS) (held : Option (Nat × Nat)) (x : Nat) (c : Nat → Nat) : Bool := decide (0 < g_fc S x c) && g_held held x (c x)
theorem g_ok_loc (S : bwS) (held : Option (Nat × Nat)) (l : List Nat) (hnd : l.Nodup) (htl : bp_tl S l) : bp_loc (g_ok S held) l := by
  induction l with
  | nil => trivial
  | cons x t ih =>
    refine ⟨fun c1 c2 h => ?_, ih (List.nodup_cons.1 hnd).2 htl.2⟩
    have hx : c1 x = c2 x := h x (List.nodup_cons.1 hnd).1
    unfold g_ok
    rw [hx, g_fc_congr S x c1 c2 (fun p hp => h p (fun hp' => htl.1 p hp (List.mem_cons_of_mem _ hp'))) hx]
theorem bp_loc_true (l : List Nat) : bp_loc (fun _ _ => true) l := by
  induction l with
  | nil => trivial
  | cons x t ih => exact ⟨fun _ _ _ => rfl, ih⟩
/-- all wholes, in the order of the reference -/
def g_all (S : bwS) : List (Nat → Nat) := bp_en (gV S) (fun _ _ => true) (List.range (gN S)) (fun _ => 0)
def g_met (S : bwS) (held : Option (Nat × Nat)) (ord : List Nat) : List (Nat → Nat) := bp_en (gV S) (g_ok S held) ord (fun _ => 0)
def g_ord (S : bwS) (ord : List Nat) : Prop := ord.Nodup ∧ (∀ x, x ∈ ord ↔ x < gN S) ∧ bp_tl S ord
theorem g_all_mem (S : bwS) (c : Nat → Nat) : c ∈ g_all S ↔ (∀ y, gN S ≤ y → c y = 0) ∧ (∀ y, y < gN S → c y < gV S y) := by
  unfold g_all
  rw [en_mem _ _ _ List.nodup_range (bp_loc_true _)]
  simp only [List.mem_range]
  exact ⟨fun h => ⟨fun y hy => h.1 y (by omega), h.2.1⟩, fun h => ⟨fun y hy => h.1 y (by omega), h.2, fun _ _ => trivial⟩⟩
theorem g_lik_pos (S : bwS) (c : Nat → Nat) : 0 < g_lik S c ↔ ∀ x, x < gN S → 0 < g_fc S x c := by
  unfold g_lik
  rw [bp_prod_pos_iff]
  simp only [List.mem_map, List.mem_range]
  exact ⟨fun h x hx => h _ ⟨x, hx, rfl⟩, fun h y ⟨x, hx, e⟩ => e ▸ h x hx⟩
def g_hc (held : Option (Nat × Nat)) (c : Nat → Nat) : Bool := match held with
  | none => true
  | some (a, b) => c a == b
theorem g_met_perm (S : bwS) (held : Option (Nat × Nat)) (ord : List Nat) (ho : g_ord S ord) (hh : ∀ a b, held = some (a, b) → a < gN S) : (g_met S held ord).Perm ((g_all S).filter (fun c => decide (0 < g_lik S c) && g_hc held c)) := by
  refine (List.perm_ext_iff_of_nodup (en_nodup _ _ _ ho.1 _) ((en_nodup _ _ _ List.nodup_range _).filter _)).2 (fun c => ?_)
  rw [en_mem _ _ _ ho.1 (g_ok_loc S held ord ho.1 ho.2.2), List.mem_filter, show bp_en (gV S) (fun _ _ => true) (List.range (gN S)) (fun _ => 0) = g_all S from rfl, g_all_mem, Bool.and_eq_true, decide_eq_true_iff, g_lik_pos]
  simp only [ho.2.1]
  refine ⟨fun ⟨h1, h2, h3⟩ => ⟨⟨fun y hy => h1 y (by omega), h2⟩, fun x hx => ?_, ?_⟩, fun ⟨⟨h1, h2⟩, h3, h4⟩ => ⟨fun y hy => h1 y (by omega), h2, fun y hy => ?_⟩⟩
  · have := h3 x hx
    unfold g_ok at this
    rw [Bool.and_eq_true, decide_eq_true_iff] at this
    exact this.1
  · cases held with
    | none => rfl
    | some ab =>
      obtain ⟨a, b⟩ := ab
      have := h3 a (hh a b rfl)
      unfold g_ok g_held at this
      unfold g_hc
      rw [Bool.and_eq_true] at this
      simpa using this.2
  · unfold g_ok
    rw [Bool.and_eq_true, decide_eq_true_iff]
    refine ⟨h3 y hy, ?_⟩
    cases held with
    | none => rfl
    | some ab =>
      obtain ⟨a, b⟩ := ab
      unfold g_hc at h4
      unfold g_held
      simp at h4 ⊢
      by_cases hya : y = a
      · right; rw [hya]; exact h4
      · left; exact hya
