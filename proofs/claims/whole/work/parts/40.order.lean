/-! PURE: the class's order, parents first. -/
/-- things placed, the latest first: each behind all its parents -/
def bp_rv (S : bwS) : List Nat → Prop
  | [] => True
  | x :: t => (x < gN S ∧ x ∉ t ∧ ∀ p, p ∈ gP S x → p ∈ t) ∧ bp_rv S t
theorem rv_nodup (S : bwS) (l : List Nat) (h : bp_rv S l) : l.Nodup := by
  induction l with
  | nil => exact List.nodup_nil
  | cons x t ih => exact List.nodup_cons.2 ⟨h.1.2.1, ih h.2⟩
theorem rv_lt (S : bwS) (l : List Nat) (h : bp_rv S l) : ∀ x, x ∈ l → x < gN S := by
  induction l with
  | nil => intro x hx; simp at hx
  | cons x t ih =>
    intro y hy
    rcases List.mem_cons.1 hy with h' | h'
    · rw [h']; exact h.1.1
    · exact ih h.2 y h'
theorem rv_len (S : bwS) (l : List Nat) (h : bp_rv S l) : l.length ≤ gN S := by
  have := List.Nodup.length_le_of_subset (rv_nodup S l h) (l₂ := List.range (gN S)) (fun x hx => List.mem_range.2 (rv_lt S l h x hx))
  rwa [List.length_range] at this
theorem rv_full (S : bwS) (l : List Nat) (h : bp_rv S l) (hl : gN S ≤ l.length) : ∀ x, x < gN S → x ∈ l := by
  intro x hx
  by_cases hm : x ∈ l
  · exact hm
  · have := List.Nodup.length_le_of_subset (List.nodup_cons.2 ⟨hm, rv_nodup S l h⟩) (l₂ := List.range (gN S)) (fun y hy => by
      rcases List.mem_cons.1 hy with h' | h'
      · rw [h']; exact List.mem_range.2 hx
      · exact List.mem_range.2 (rv_lt S l h y h'))
    rw [List.length_range, List.length_cons] at this
    omega
theorem rv_tl (S : bwS) (l : List Nat) (h : bp_rv S l) (suf : List Nat) (hs : bp_tl S suf) (hd : ∀ x, x ∈ l → x ∉ suf) : bp_tl S (l.reverse ++ suf) := by
  induction l generalizing suf with
  | nil => exact hs
  | cons x t ih =>
    rw [List.reverse_cons, List.append_assoc]
    refine ih h.2 (x :: suf) ⟨fun p hp hp' => ?_, hs⟩ (fun y hy hy' => ?_)
    · have hpt := h.1.2.2 p hp
      rcases List.mem_cons.1 hp' with h' | h'
      · rw [h'] at hpt; exact h.1.2.1 hpt
      · exact hd p (List.mem_cons_of_mem _ hpt) h'
    · rcases List.mem_cons.1 hy' with h' | h'
      · rw [h'] at hy; exact h.1.2.1 hy
      · exact hd y (List.mem_cons_of_mem _ hy) h'
theorem rv_ord (S : bwS) (l : List Nat) (h : bp_rv S l) (hf : ∀ x, x < gN S → x ∈ l) : g_ord S l.reverse := by
  refine ⟨(List.reverse_perm l).nodup_iff.2 (rv_nodup S l h), fun x => ?_, ?_⟩
  · rw [List.mem_reverse]
    exact ⟨rv_lt S l h x, hf x⟩
  · have := rv_tl S l h [] trivial (fun _ _ h => by simp at h)
    rwa [List.append_nil] at this
theorem rv_next (S : bwS) (hS : bwOK S) (l : List Nat) (x : Nat) (hx : x < gN S) (hl : x ∉ l) : ∃ y, y < gN S ∧ y ∉ l ∧ ∀ p, p ∈ gP S y → p ∈ l := by
  obtain ⟨rk, hrk⟩ := ok_rk hS
  induction hr : rk x using Nat.strongRecOn generalizing x with
  | ind r ih =>
    by_cases h : ∀ p, p ∈ gP S x → p ∈ l
    · exact ⟨x, hx, hl, h⟩
    · have : ∃ p, p ∈ gP S x ∧ p ∉ l := by
        refine Classical.byContradiction (fun hn => h (fun p hp => ?_))
        exact Classical.byContradiction (fun hpl => hn ⟨p, hp, hpl⟩)
      obtain ⟨p, hp, hpl⟩ := this
      exact ih (rk p) (by rw [← hr]; exact hrk x p hx hp) p (ok_pn hS hx hp) hpl rfl
/-- the order in memory: cell 25 -/
def bw_om (μ : bwM) (l : List Nat) : Prop := ∀ i (h : i < l.length), μ.1 25 i = nI l[i]
theorem sS_ord_in (d : Nat) {S : bwS} (hS : bwOK S) (l0 : List Nat) (x4 : Int32) (t : Nat) (ht : t ≤ gN S) (l : List Nat) (hl : bp_rv S l) (m : Nat) (hm : m < 4096) (hb : ∀ y, m.testBit y = true ↔ y ∈ l) (hsub : ∀ y, y ∈ l0 → y ∈ l) (hprog : ∀ y, y < t → (∀ p, p ∈ gP S y → p ∈ l0) → y ∈ l) (μ : bwM) (hR : bwC 2 S μ) (ho : bw_om μ l.reverse) : ∃ (ν : bwM) (q : Nat) (l' : List Nat), eX1_putParentsFirst (d + 2) 19 [some (.inr (.inr 24)), some (.inr (.inr 2)), some (.inl (nI m)), some (.inl (nI l.length)), some (.inl x4), some (.inl (nI t))] [] μ = eX1_putParentsFirst (d + 2) 7 [some (.inr (.inr 24)), some (.inr (.inr 2)), some (.inl (nI q)), some (.inl (nI l'.length)), some (.inl (x4 + 1)), some (.inl (nI (gN S)))] [] ν ∧ bp_rv S l' ∧ q < 4096 ∧ (∀ y, q.testBit y = true ↔ y ∈ l') ∧ (∀ y, y ∈ l0 → y ∈ l') ∧ (∀ y, y < gN S → (∀ p, p ∈ gP S y → p ∈ l0) → y ∈ l') ∧ l.length ≤ l'.length ∧ bw_om ν l'.reverse ∧ ν.2 = μ.2 ∧ (∀ c, c ≠ 25 → ν.1 c = μ.1 c) := by
  have hn := ok_n hS
  induction hj : gN S - t generalizing t l m μ with
  | zero =>
    have : t = gN S := by omega
    subst this
    refine ⟨μ, m, l, ?_, hl, hm, hb, hsub, hprog, Nat.le_refl _, ho, rfl, fun _ _ => rfl⟩
    rw [qX1_putParentsFirst_19, rc_n hR, if_pos (nI_le (by omega) (by omega))]
  | succ j ih =>
    have ht' : t < gN S := by omega
    rw [qX1_putParentsFirst_19, rc_n hR, if_neg (nI_ge (by omega) (by omega)), sB_isIn _ hm (by omega), bq_I]
    by_cases hin : m.testBit t = true
    · rw [if_pos hin, if_neg bq_ne10, qX1_putParentsFirst_68, nI_1]
      exact ih (t + 1) (by omega) l hl m hm hb hsub (fun y hy hp => by
        by_cases hyt : y = t
        · rw [hyt]; exact (hb t).1 hin
        · exact hprog y (by omega) hp) μ hR ho (by omega)
    · rw [if_neg hin, if_pos rfl]
      obtain ⟨r, r1, r2, r3⟩ := sW_ps d (Or.inl rfl) hS hR ht'
      rw [r2, bq_I]
      by_cases hs : ∀ p, p ∈ gP S t → p ∈ l
      · have hlt : l.length < gN S := by
          have := rv_len S (t :: l) ⟨⟨ht', fun h => hin ((hb t).2 h), hs⟩, hl⟩
          rw [List.length_cons] at this
          omega
        rw [if_pos ((bs_sub r m r1).2 (fun y hy => (hb y).2 (hs y ((r3 y).1 hy)))), if_pos ((bq_ii (by omega)).2 (by omega)), nI_clamp (by omega), bs_one t (by omega), nI_or, nI_1, qX1_putParentsFirst_68, nI_1]
        obtain ⟨ν, q, l', e1, e2, e3, e4, e5, e6, e7, e8, e9, e10⟩ := ih (t + 1) (by omega) (t :: l) ⟨⟨ht', fun h => hin ((hb t).2 h), hs⟩, hl⟩ (m ||| 2 ^ t) (bs_or_lt hm (bs_pow_lt (by omega))) (fun y => by
          rw [bs_or_iff, bs_pow_iff, hb y, List.mem_cons]
          exact ⟨fun h => h.symm, fun h => h.symm⟩) (fun y hy => List.mem_cons_of_mem _ (hsub y hy)) (fun y hy hp => by
          by_cases hyt : y = t
          · rw [hyt]; exact List.mem_cons_self
          · exact List.mem_cons_of_mem _ (hprog y (by omega) hp)) (bw_si μ 25 l.length (nI t)) (fr_c hR (fun i hi => funext (fun j => bq_sin _ _ (by omega)))) (fun i hi => by
          rw [List.length_reverse, List.length_cons] at hi
          by_cases hil : i = l.length
          · subst hil
            rw [bq_sie]
            congr 1
            simp
          · rw [bq_sin _ _ (by omega), ho i (by rw [List.length_reverse]; omega)]
            congr 1
            simp only [List.reverse_cons]
            exact (List.getElem_append_left (by rw [List.length_reverse]; omega)).symm) (by omega)
        refine ⟨ν, q, l', e1, e2, e3, e4, e5, e6, ?_, e8, e9, fun c hc => ?_⟩
        · rw [List.length_cons] at e7; omega
        · rw [e10 c hc]
          funext j
          exact bq_sin _ _ (by omega)
      · rw [if_neg (fun h => hs (fun p hp => (hb p).1 ((bs_sub r m r1).1 h p ((r3 p).2 hp)))), qX1_putParentsFirst_68, nI_1]
        exact ih (t + 1) (by omega) l hl m hm hb hsub (fun y hy hp => by
          by_cases hyt : y = t
          · rw [hyt] at hp; exact absurd (fun p hp' => hsub p (hp p hp')) hs
          · exact hprog y (by omega) hp) μ hR ho (by omega)
theorem sS_ord_go (d : Nat) {S : bwS} (hS : bwOK S) (k : Nat) (hk : k ≤ gN S) (l : List Nat) (hl : bp_rv S l) (hkl : k ≤ l.length) (m : Nat) (hm : m < 4096) (hb : ∀ y, m.testBit y = true ↔ y ∈ l) (o5 : Option bwV) (μ : bwM) (hR : bwC 2 S μ) (ho : bw_om μ l.reverse) : ∃ (ν : bwM) (l' : List Nat), eX1_putParentsFirst (d + 2) 7 [some (.inr (.inr 24)), some (.inr (.inr 2)), some (.inl (nI m)), some (.inl (nI l.length)), some (.inl (nI k)), o5] [] μ = some (none, ν) ∧ bp_rv S l' ∧ gN S ≤ l'.length ∧ bw_om ν l'.reverse ∧ ν.2 = μ.2 ∧ (∀ c, c ≠ 25 → ν.1 c = μ.1 c) := by
  have hn := ok_n hS
  induction hj : gN S - k generalizing k l m o5 μ with
  | zero =>
    have : k = gN S := by omega
    subst this
    refine ⟨μ, l, ?_, hl, hkl, ho, rfl, fun _ _ => rfl⟩
    rw [qX1_putParentsFirst_7, rc_n hR, if_pos (nI_le (by omega) (by omega))]
  | succ j ih =>
    obtain ⟨ν, q, l', e1, e2, e3, e4, e5, e6, e7, e8, e9, e10⟩ := sS_ord_in d hS l (nI k) 0 (by omega) l hl m hm hb (fun _ h => h) (fun y hy => by omega) μ hR ho
    rw [nI_1] at e1
    have hk1 : k + 1 ≤ l'.length := by
      by_cases hfull : gN S ≤ l.length
      · omega
      · by_cases hall : ∀ x, x < gN S → x ∈ l
        · have := List.Nodup.length_le_of_subset (List.nodup_range (n := gN S)) (l₂ := l) (fun x hx => hall x (List.mem_range.1 hx))
          rw [List.length_range] at this
          omega
        · have : ∃ x, x < gN S ∧ x ∉ l := by
            refine Classical.byContradiction (fun hn => hall (fun x hx => ?_))
            exact Classical.byContradiction (fun hxl => hn ⟨x, hx, hxl⟩)
          obtain ⟨x, hx, hxl⟩ := this
          obtain ⟨y, hy, hyl, hyp⟩ := rv_next S hS l x hx hxl
          have hy' := e6 y hy hyp
          have := List.Nodup.length_le_of_subset (List.nodup_cons.2 ⟨hyl, rv_nodup S l hl⟩) (l₂ := l') (fun z hz => by
            rcases List.mem_cons.1 hz with h' | h'
            · rw [h']; exact hy'
            · exact e5 z h')
          rw [List.length_cons] at this
          omega
    obtain ⟨τ, l2, f1, f2, f3, f4, f5, f6⟩ := ih (k + 1) (by omega) l' e2 hk1 q e3 e4 (some (.inl (nI (gN S)))) ν (fr_c hR (fun i hi => e10 _ (by omega))) e8 (by omega)
    refine ⟨τ, l2, ?_, f2, f3, f4, f5.trans e9, fun c hc => (f6 c hc).trans (e10 c hc)⟩
    rw [qX1_putParentsFirst_7, rc_n hR, if_neg (nI_ge (by omega) (by omega)), show (0 : Int32) = nI 0 from rfl]
    exact e1.trans f1
/-- Survey.putParentsFirst -/
theorem sS_ord (d : Nat) {S : bwS} (hS : bwOK S) (μ : bwM) (hR : bwC 2 S μ) : ∃ (ν : bwM) (ord : List Nat), bw_call (d + 3) 9 [.inr (.inr 24), .inr (.inr 2)] μ = some (none, ν) ∧ g_ord S ord ∧ ord.length = gN S ∧ bw_om ν ord ∧ ν.2 = μ.2 ∧ (∀ c, c ≠ 25 → ν.1 c = μ.1 c) := by
  obtain ⟨ν, l, e1, e2, e3, e4, e5, e6⟩ := sS_ord_go d hS 0 (by omega) [] trivial (Nat.le_refl _) 0 (by omega) (fun y => by rw [bs_zero]; simp) none μ hR (fun i hi => by simp at hi)
  have := rv_len S l e2
  refine ⟨ν, l.reverse, ?_, rv_ord S l e2 (rv_full S l e2 e3), by rw [List.length_reverse]; omega, e4, e5, e6⟩
  rw [qX1_putParentsFirst]
  exact e1
