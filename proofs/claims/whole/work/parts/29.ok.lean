/-! PURE: the acts keep a web in order. -/
theorem bp_prod_congr {f g : Nat → Nat} (n : Nat) (h : ∀ x, x < n → f x = g x) : bp_prod f n = bp_prod g n := by
  induction n with
  | zero => rfl
  | succ n ih =>
    show bp_prod f n * f n = bp_prod g n * g n
    rw [ih (fun x hx => h x (by omega)), h n (by omega)]
theorem bp_prod_up (f : Nat → Nat) (n v : Nat) : bp_prod (bp_up f n v) (n + 1) = bp_prod f n * v := by
  show bp_prod (bp_up f n v) n * bp_up f n v n = _
  rw [bp_up_eq, bp_prod_congr n (fun x hx => bp_up_ne f (by omega) v)]
theorem bp_prod_pos (f : Nat → Nat) (n : Nat) (h : ∀ x, x < n → 1 ≤ f x) : 1 ≤ bp_prod f n := by
  induction n with
  | zero => exact Nat.le_refl 1
  | succ n ih =>
    have h1 := ih (fun x hx => h x (by omega))
    have h2 := h n (by omega)
    exact Nat.mul_le_mul h1 h2
theorem ok_par {S : bwS} (hS : bwOK S) {b : Nat} {l : List Nat} (h3 : l.length ≤ 3) (hnd : l.Nodup) (hln : ∀ p, p ∈ l → p < gN S) (hb : b < gN S) (hrk : ∃ rk : Nat → Nat, ∀ x p, x < gN S → p ∈ bp_up (gP S) b l x → rk p < rk x) : bwOK (bo_par b l S) := by
  refine ⟨hS.1, hS.2.1, fun x hx => ?_, fun x hx => ?_, fun x r v hx hr hv => ?_, hS.2.2.2.2.2.1, hS.2.2.2.2.2.2.1, hS.2.2.2.2.2.2.2.1, hS.2.2.2.2.2.2.2.2.1, hrk⟩
  · show (bp_up (gP S) b l x).length ≤ 3 ∧ (bp_up (gP S) b l x).Nodup ∧ ∀ p, p ∈ bp_up (gP S) b l x → p < gN S
    by_cases hxb : x = b
    · rw [hxb, bp_up_eq]; exact ⟨h3, hnd, hln⟩
    · rw [bp_up_ne _ hxb]; exact hS.2.2.1 x hx
  · have hx' : gN S ≤ x := hx
    show bp_up (gP S) b l x = []
    rw [bp_up_ne _ (by omega)]
    exact ok_p0 hS hx
  · show bp_up (gW S) b (fun _ v => if v = 0 then gT S b else 0) x r v ≤ gT S x
    by_cases hxb : x = b
    · rw [hxb, bp_up_eq]
      by_cases hv0 : v = 0
      · rw [if_pos hv0]; exact Nat.le_refl _
      · rw [if_neg hv0]; exact Nat.zero_le _
    · rw [bp_up_ne _ hxb]
      refine ok_w hS hx ?_ hv
      unfold g_rows at hr ⊢
      rw [show gP (bo_par b l S) x = gP S x from bp_up_ne _ hxb _] at hr
      exact hr
theorem ok_weight {S : bwS} (hS : bwOK S) {x r v k : Nat} (hk : k ≤ gT S x) : bwOK (bo_weight x r v k S) := by
  refine ⟨hS.1, hS.2.1, hS.2.2.1, hS.2.2.2.1, fun y q u hy hq hu => ?_, hS.2.2.2.2.2.1, hS.2.2.2.2.2.2.1, hS.2.2.2.2.2.2.2.1, hS.2.2.2.2.2.2.2.2.1, hS.2.2.2.2.2.2.2.2.2⟩
  have h0 := ok_w hS hy hq hu
  show bp_up (gW S) x (bp_up (gW S x) r (bp_up (gW S x r) v k)) y q u ≤ gT S y
  by_cases hyx : y = x
  · subst hyx
    rw [bp_up_eq]
    by_cases hqr : q = r
    · subst hqr
      rw [bp_up_eq]
      by_cases huv : u = v
      · subst huv
        rw [bp_up_eq]; exact hk
      · rw [bp_up_ne _ huv]; exact h0
    · rw [bp_up_ne _ hqr]; exact h0
  · rw [bp_up_ne _ hyx]; exact h0
theorem ok_known {S : bwS} (hS : bwOK S) {x : Nat} {s u : Option Nat} (hs : ∀ v, s = some v → v < gV S x) (hu : ∀ v, u = some v → v < gV S x) (hsu : s = none ∨ u = none) : bwOK (bo_known x s u S) := by
  refine ⟨hS.1, hS.2.1, hS.2.2.1, hS.2.2.2.1, hS.2.2.2.2.1, fun y hy => ?_, hS.2.2.2.2.2.2.1, hS.2.2.2.2.2.2.2.1, hS.2.2.2.2.2.2.2.2.1, hS.2.2.2.2.2.2.2.2.2⟩
  show (∀ v, bp_up (gS S) x s y = some v → v < gV S y) ∧ (∀ v, bp_up (gD S) x u y = some v → v < gV S y) ∧ (bp_up (gS S) x s y = none ∨ bp_up (gD S) x u y = none)
  by_cases hyx : y = x
  · rw [hyx, bp_up_eq, bp_up_eq]; exact ⟨hs, hu, hsu⟩
  · rw [bp_up_ne _ hyx, bp_up_ne _ hyx]; exact hS.2.2.2.2.2.1 y hy
theorem ok_force {S : bwS} (hS : bwOK S) {x v f : Nat} (hf : f ≤ 3) : bwOK (bo_force x v f S) := by
  refine ⟨hS.1, hS.2.1, hS.2.2.1, hS.2.2.2.1, hS.2.2.2.2.1, hS.2.2.2.2.2.1, fun y u hy hu => ?_, hS.2.2.2.2.2.2.2.1, hS.2.2.2.2.2.2.2.2.1, hS.2.2.2.2.2.2.2.2.2⟩
  have h0 := ok_f hS hy hu
  show bp_up (gF S) x (bp_up (gF S x) v f) y u ≤ 3
  by_cases hyx : y = x
  · subst hyx
    rw [bp_up_eq]
    by_cases huv : u = v
    · rw [huv, bp_up_eq]; exact hf
    · rw [bp_up_ne _ huv]; exact h0
  · rw [bp_up_ne _ hyx]; exact h0
theorem ok_options {S : bwS} (hS : bwOK S) {n : Nat} (hn : n ≤ 6) : bwOK (bo_options n S) := by
  refine ⟨⟨hS.1.1, hn⟩, hS.2.1, hS.2.2.1, hS.2.2.2.1, hS.2.2.2.2.1, hS.2.2.2.2.2.1, hS.2.2.2.2.2.2.1, fun o x v => ?_, hS.2.2.2.2.2.2.2.2.1, hS.2.2.2.2.2.2.2.2.2⟩
  show (-500 ≤ (if o < n then gU S o x v else 0).toInt ∧ (if o < n then gU S o x v else 0).toInt ≤ 500) ∧ (¬ (o < n ∧ x < gN S ∧ v < gV S x) → (if o < n then gU S o x v else 0) = 0)
  by_cases ho : o < n
  · rw [if_pos ho]
    exact ⟨⟨ok_u1 hS o x v, ok_u2 hS o x v⟩, fun h => ok_u0 hS (fun h' => h ⟨ho, h'.2.1, h'.2.2⟩)⟩
  · rw [if_neg ho]
    exact ⟨by decide, fun _ => rfl⟩
theorem ok_worth {S : bwS} (hS : bwOK S) {o x v : Nat} {k : Int32} (ho : o < gO S) (hx : x < gN S) (hv : v < gV S x) (h1 : -500 ≤ k.toInt) (h2 : k.toInt ≤ 500) : bwOK (bo_worth o x v k S) := by
  refine ⟨hS.1, hS.2.1, hS.2.2.1, hS.2.2.2.1, hS.2.2.2.2.1, hS.2.2.2.2.2.1, hS.2.2.2.2.2.2.1, fun p y u => ?_, hS.2.2.2.2.2.2.2.2.1, hS.2.2.2.2.2.2.2.2.2⟩
  have h0 := hS.2.2.2.2.2.2.2.1 p y u
  show (-500 ≤ (bp_up (gU S) o (bp_up (gU S o) x (bp_up (gU S o x) v k)) p y u).toInt ∧ (bp_up (gU S) o (bp_up (gU S o) x (bp_up (gU S o x) v k)) p y u).toInt ≤ 500) ∧ (¬ (p < gO S ∧ y < gN S ∧ u < gV S y) → bp_up (gU S) o (bp_up (gU S o) x (bp_up (gU S o x) v k)) p y u = 0)
  by_cases hpo : p = o
  · subst hpo
    rw [bp_up_eq]
    by_cases hyx : y = x
    · subst hyx
      rw [bp_up_eq]
      by_cases huv : u = v
      · subst huv
        rw [bp_up_eq]
        exact ⟨⟨h1, h2⟩, fun h => absurd ⟨ho, hx, hv⟩ h⟩
      · rw [bp_up_ne _ huv]; exact h0
    · rw [bp_up_ne _ hyx]; exact h0
  · rw [bp_up_ne _ hpo]; exact h0
theorem ok_thing {S : bwS} (hS : bwOK S) {n t : Nat} (hn : 2 ≤ n) (hn4 : n ≤ 4) (ht : 1 ≤ t) (ht100 : t ≤ 100) (h12 : gN S < 12) (hp : bp_prod (gV S) (gN S) * n ≤ 20000) (hq : bp_prod (gT S) (gN S) * t ≤ 1000000000) : bwOK (bo_thing n t S) := by
  obtain ⟨rk, hrk⟩ := ok_rk hS
  have hP : ∀ x, gP (bo_thing n t S) x = gP S x := fun _ => rfl
  have hV : ∀ x, x < gN S → gV (bo_thing n t S) x = gV S x := fun x hx => bp_up_ne _ (by omega) _
  have hrows : ∀ x, x < gN S → g_rows (bo_thing n t S) x = g_rows S x := by
    intro x hx
    unfold g_rows
    rw [hP]
    have : ∀ (l : List Nat), (∀ p, p ∈ l → p < gN S) → ∀ r, l.foldl (fun r p => r * gV (bo_thing n t S) p) r = l.foldl (fun r p => r * gV S p) r := by
      intro l
      induction l with
      | nil => intro _ r; rfl
      | cons p l ih =>
        intro hl r
        rw [List.foldl_cons, List.foldl_cons, hV p (hl p (by simp))]
        exact ih (fun q hq => hl q (by simp [hq])) _
    exact this _ (fun p hp => ok_pn hS hx hp) 1
  have hlt : ∀ {x}, x < gN (bo_thing n t S) → x < gN S ∨ x = gN S := fun {x} hx => by
    have : x < gN S + 1 := hx
    omega
  refine ⟨⟨?_, hS.1.2⟩, fun x hx => ?_, fun x hx => ?_, fun x hx => ?_, fun x r v hx hr hv => ?_, fun x hx => ?_, fun x v hx hv => ?_, fun o x v => ?_, ⟨?_, ?_⟩, rk, fun x p hx hp => ?_⟩
  · show gN S + 1 ≤ 12
    omega
  · show 2 ≤ bp_up (gV S) (gN S) n x ∧ bp_up (gV S) (gN S) n x ≤ 4 ∧ 1 ≤ bp_up (gT S) (gN S) t x ∧ bp_up (gT S) (gN S) t x ≤ 100
    rcases hlt hx with h | h
    · rw [bp_up_ne _ (by omega), bp_up_ne _ (by omega)]; exact hS.2.1 x h
    · rw [h, bp_up_eq, bp_up_eq]; exact ⟨hn, hn4, ht, ht100⟩
  · rw [hP]
    show _ ∧ _ ∧ ∀ p, p ∈ gP S x → p < gN S + 1
    rcases hlt hx with h | h
    · have := hS.2.2.1 x h
      exact ⟨this.1, this.2.1, fun p hp => by have := this.2.2 p hp; omega⟩
    · rw [ok_p0 hS (by omega)]
      exact ⟨by simp, List.nodup_nil, fun p hp => by simp at hp⟩
  · have : gN S + 1 ≤ x := hx
    rw [hP]
    exact ok_p0 hS (by omega)
  · show bp_up (gW S) (gN S) (fun _ v => if v = 0 then t else 0) x r v ≤ bp_up (gT S) (gN S) t x
    rcases hlt hx with h | h
    · rw [bp_up_ne _ (by omega), bp_up_ne _ (by omega)]
      rw [hrows x h] at hr
      rw [hV x h] at hv
      exact ok_w hS h hr hv
    · rw [h, bp_up_eq, bp_up_eq]
      split
      · exact Nat.le_refl _
      · exact Nat.zero_le _
  · show (∀ v, bp_up (gS S) (gN S) none x = some v → v < bp_up (gV S) (gN S) n x) ∧ (∀ v, bp_up (gD S) (gN S) none x = some v → v < bp_up (gV S) (gN S) n x) ∧ (bp_up (gS S) (gN S) none x = none ∨ bp_up (gD S) (gN S) none x = none)
    rcases hlt hx with h | h
    · rw [bp_up_ne _ (by omega), bp_up_ne _ (by omega), bp_up_ne _ (by omega)]
      exact hS.2.2.2.2.2.1 x h
    · rw [h, bp_up_eq, bp_up_eq, bp_up_eq]
      exact ⟨fun v hv => (by cases hv), fun v hv => (by cases hv), Or.inl rfl⟩
  · show bp_up (gF S) (gN S) (fun _ => 1) x v ≤ 3
    rcases hlt hx with h | h
    · rw [bp_up_ne _ (by omega)]
      rw [hV x h] at hv
      exact ok_f hS h hv
    · rw [h, bp_up_eq]; omega
  · refine ⟨⟨ok_u1 hS o x v, ok_u2 hS o x v⟩, fun h => ok_u0 hS (fun h' => h ⟨h'.1, ?_, ?_⟩)⟩
    · show x < gN S + 1
      omega
    · rw [hV x h'.2.1]; exact h'.2.2
  · show bp_prod (bp_up (gV S) (gN S) n) (gN S + 1) ≤ 20000
    rw [bp_prod_up]; exact hp
  · show bp_prod (bp_up (gT S) (gN S) t) (gN S + 1) ≤ 1000000000
    rw [bp_prod_up]; exact hq
  · rw [hP] at hp
    rcases hlt hx with h | h
    · exact hrk x p h hp
    · rw [ok_p0 hS (by omega)] at hp
      simp at hp
