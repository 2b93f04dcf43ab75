/-! PURE: ancestors and descendants; the ring test of arrow. -/
theorem bq_vn0 : vp_nar .boolean (0 : Int32) = 0 := by decide
theorem bq_vn1 : vp_nar .boolean (1 : Int32) = 1 := by decide
theorem filt_lt {p q : Nat → Bool} (l : List Nat) (h : ∀ x, x ∈ l → p x = true → q x = true) : (l.filter p).length ≤ (l.filter q).length ∧ ((∃ x, x ∈ l ∧ q x = true ∧ p x = false) → (l.filter p).length < (l.filter q).length) := by
  induction l with
  | nil => exact ⟨Nat.le_refl _, fun ⟨x, hx, _⟩ => by simp at hx⟩
  | cons a t ih =>
    have ih' := ih (fun x hx => h x (List.mem_cons_of_mem _ hx))
    by_cases hp : p a = true
    · have hq := h a List.mem_cons_self hp
      rw [List.filter_cons_of_pos hp, List.filter_cons_of_pos hq, List.length_cons, List.length_cons]
      refine ⟨by omega, fun ⟨x, hx, h1, h2⟩ => ?_⟩
      rcases List.mem_cons.1 hx with h' | h'
      · rw [h', hp] at h2; cases h2
      · have := ih'.2 ⟨x, h', h1, h2⟩
        omega
    · rw [List.filter_cons_of_neg hp]
      by_cases hq : q a = true
      · rw [List.filter_cons_of_pos hq, List.length_cons]
        exact ⟨by omega, fun _ => by omega⟩
      · rw [List.filter_cons_of_neg hq]
        refine ⟨ih'.1, fun ⟨x, hx, h1, h2⟩ => ?_⟩
        rcases List.mem_cons.1 hx with h' | h'
        · rw [h'] at h1; exact absurd h1 hq
        · exact ih'.2 ⟨x, h', h1, h2⟩
def g_cnt (n : Nat) (p : Nat → Bool) : Nat := ((List.range n).filter p).length
theorem cnt_le (n : Nat) (p : Nat → Bool) : g_cnt n p ≤ n := by
  have := List.length_filter_le p (List.range n)
  rwa [List.length_range] at this
theorem cnt_lt {n : Nat} {p q : Nat → Bool} (h : ∀ x, x < n → p x = true → q x = true) {x : Nat} (hx : x < n) (h1 : q x = true) (h2 : p x = false) : g_cnt n p < g_cnt n q := (filt_lt (List.range n) (fun x hx => h x (List.mem_range.1 hx))).2 ⟨x, List.mem_range.2 hx, h1, h2⟩
/-- b is a or above it -/
def g_an (S : bwS) (a b : Nat) : Prop := ∀ Q : Nat → Prop, Q a → (∀ t p, t < gN S → Q t → p ∈ gP S t → Q p) → Q b
/-- b is a or below it; with cut, not through what is done -/
def g_rc (S : bwS) (cut : Bool) (a b : Nat) : Prop := ∀ Q : Nat → Prop, Q a → (∀ t p, t < gN S → (cut = true → gD S t = none) → p ∈ gP S t → Q p → Q t) → Q b
theorem an_rc (S : bwS) (a b : Nat) : g_an S a b ↔ g_rc S false b a := by
  constructor
  · intro h
    exact h (fun y => g_rc S false y a) (fun Q h1 _ => h1) (fun t p ht hQ hp Q h1 h2 => hQ Q (h2 t p ht (fun h => by cases h) hp h1) h2)
  · intro h
    exact h (fun y => g_an S y b) (fun Q h1 _ => h1) (fun t p ht _ hp hQ Q h1 h2 => hQ Q (h2 t p ht h1 hp) h2)
theorem rc_refl (S : bwS) (cut : Bool) (a : Nat) : g_rc S cut a a := fun _ h _ => h
theorem rc_step {S : bwS} {cut : Bool} {a t p : Nat} (h : g_rc S cut a p) (ht : t < gN S) (hd : cut = true → gD S t = none) (hp : p ∈ gP S t) : g_rc S cut a t := fun Q h1 h2 => h2 t p ht hd hp (h Q h1 h2)
/-- the class's ancestors -/
theorem sW_anc_in (d : Nat) {S : bwS} (hS : bwOK S) {μ : bwM} (hR : bwC 2 S μ) (x1 x3 : Int32) (m0 : Nat) (t : Nat) (ht : t ≤ gN S) (m : Nat) (hm : m < 4096) (hsub : ∀ y, m0.testBit y = true → m.testBit y = true) (hcl : ∀ y, y < t → m0.testBit y = true → ∀ p, p ∈ gP S y → m.testBit p = true) (hmin : ∀ Q : Nat → Prop, (∀ y, m0.testBit y = true → Q y) → (∀ t p, t < gN S → Q t → p ∈ gP S t → Q p) → ∀ y, m.testBit y = true → Q y) : ∃ m', m' < 4096 ∧ eX2_ancestorsAnd (d + 2) 17 [some (.inr (.inr 2)), some (.inl x1), some (.inl (nI m)), some (.inl x3), some (.inl (nI t))] [] μ = eX2_ancestorsAnd (d + 2) 6 [some (.inr (.inr 2)), some (.inl x1), some (.inl (nI m')), some (.inl (x3 + 1)), some (.inl (nI (gN S)))] [] μ ∧ (∀ y, m0.testBit y = true → m'.testBit y = true) ∧ (∀ y, y < gN S → m0.testBit y = true → ∀ p, p ∈ gP S y → m'.testBit p = true) ∧ (∀ Q : Nat → Prop, (∀ y, m0.testBit y = true → Q y) → (∀ t p, t < gN S → Q t → p ∈ gP S t → Q p) → ∀ y, m'.testBit y = true → Q y) := by
  have hn := ok_n hS
  have hw : (2 : Nat) = 2 ∨ (2 : Nat) = 12 := Or.inl rfl
  induction hj : gN S - t generalizing t m with
  | zero =>
    have : t = gN S := by omega
    subst this
    refine ⟨m, hm, ?_, hsub, hcl, hmin⟩
    rw [qX2_ancestorsAnd_17 _ hw, rc_n hR, if_pos (nI_le (by omega) (by omega))]
  | succ j ih =>
    rw [qX2_ancestorsAnd_17 _ hw, rc_n hR, if_neg (nI_ge (by omega) (by omega)), sB_isIn _ hm (by omega), bq_I]
    by_cases hin : m.testBit t = true
    · obtain ⟨q, q1, q2, q3⟩ := sW_ps d hw hS hR (x := t) (by omega)
      rw [if_pos hin, if_neg bq_ne10, q2, bq_I, nI_or, qX2_ancestorsAnd_44 _ hw, nI_1]
      exact ih (t + 1) (by omega) (m ||| q) (bs_or_lt hm q1) (fun y hy => (bs_or_iff _ _ _).2 (Or.inl (hsub y hy))) (fun y hy h0 p hp => by
        by_cases hyt : y = t
        · subst hyt; exact (bs_or_iff _ _ _).2 (Or.inr ((q3 p).2 hp))
        · exact (bs_or_iff _ _ _).2 (Or.inl (hcl y (by omega) h0 p hp))) (fun Q h1 h2 y hy => by
        rcases (bs_or_iff _ _ _).1 hy with h | h
        · exact hmin Q h1 h2 y h
        · exact h2 t y (by omega) (hmin Q h1 h2 t hin) ((q3 y).1 h)) (by omega)
    · rw [if_neg hin, if_pos rfl, qX2_ancestorsAnd_44 _ hw, nI_1]
      exact ih (t + 1) (by omega) m hm hsub (fun y hy h0 p hp => by
        by_cases hyt : y = t
        · subst hyt; exact absurd (hsub y h0) hin
        · exact hcl y (by omega) h0 p hp) hmin (by omega)
theorem sW_anc_go (d : Nat) {S : bwS} (hS : bwOK S) {μ : bwM} (hR : bwC 2 S μ) {a : Nat} (x1 : Int32) (k : Nat) (hk : k ≤ gN S) (o4 : Option bwV) (m : Nat) (hm : m < 4096) (hma : m.testBit a = true) (hmin : ∀ y, m.testBit y = true → g_an S a y) (hprog : (∀ t p, t < gN S → m.testBit t = true → p ∈ gP S t → m.testBit p = true) ∨ k + 1 ≤ g_cnt (gN S) (fun x => m.testBit x)) : ∃ m', m' < 4096 ∧ eX2_ancestorsAnd (d + 2) 6 [some (.inr (.inr 2)), some (.inl x1), some (.inl (nI m)), some (.inl (nI k)), o4] [] μ = some (some (.inl (nI m')), μ) ∧ ∀ y, m'.testBit y = true ↔ g_an S a y := by
  have hn := ok_n hS
  have hw : (2 : Nat) = 2 ∨ (2 : Nat) = 12 := Or.inl rfl
  induction hj : gN S - k generalizing k m o4 with
  | zero =>
    have : k = gN S := by omega
    subst this
    have hcl : ∀ t p, t < gN S → m.testBit t = true → p ∈ gP S t → m.testBit p = true := by
      rcases hprog with h | h
      · exact h
      · have := cnt_le (gN S) (fun x => m.testBit x)
        omega
    refine ⟨m, hm, ?_, fun y => ⟨hmin y, fun h => h (fun y => m.testBit y = true) hma hcl⟩⟩
    rw [qX2_ancestorsAnd_6 _ hw, rc_n hR, if_pos (nI_le (by omega) (by omega))]
  | succ j ih =>
    obtain ⟨m', e1, e2, e3, e4, e5⟩ := sW_anc_in d hS hR x1 (nI k) m 0 (by omega) m hm (fun _ h => h) (fun y hy => by omega) (fun Q h1 _ y hy => h1 y hy)
    rw [nI_1] at e2
    have hm' : ∀ y, m'.testBit y = true → g_an S a y := fun y hy Q h1 h2 => e5 Q (fun z hz => hmin z hz Q h1 h2) h2 y hy
    obtain ⟨m2, f1, f2, f3⟩ := ih (k + 1) (by omega) (some (.inl (nI (gN S)))) m' e1 (e3 a hma) hm' (by
      by_cases hcl : ∀ t p, t < gN S → m.testBit t = true → p ∈ gP S t → m.testBit p = true
      · left
        have hback : ∀ y, m'.testBit y = true → m.testBit y = true := fun y hy => e5 (fun z => m.testBit z = true) (fun _ h => h) hcl y hy
        exact fun t p ht h1 hp => e3 p (hcl t p ht (hback t h1) hp)
      · right
        rcases hprog with h | h
        · exact absurd h hcl
        · have : ∃ t p, t < gN S ∧ m.testBit t = true ∧ p ∈ gP S t ∧ m.testBit p = false := by
            refine Classical.byContradiction (fun hno => hcl (fun t p ht h1 hp => ?_))
            cases hmp : m.testBit p with
            | true => rfl
            | false => exact absurd ⟨t, p, ht, h1, hp, hmp⟩ hno
          obtain ⟨t, p, ht, h1, hp, h2⟩ := this
          have := cnt_lt (p := fun x => m.testBit x) (q := fun x => m'.testBit x) (fun x _ hx => e3 x hx) (ok_pn hS ht hp) (e4 t ht h1 p hp) h2
          omega) (by omega)
    refine ⟨m2, f1, ?_, f3⟩
    rw [qX2_ancestorsAnd_6 _ hw, rc_n hR, if_neg (nI_ge (by omega) (by omega)), show (0 : Int32) = nI 0 from rfl]
    exact e2.trans f2
theorem sW_anc (d : Nat) {S : bwS} (hS : bwOK S) {μ : bwM} (hR : bwC 2 S μ) {a : Nat} (ha : a < gN S) : ∃ m', m' < 4096 ∧ bw_call (d + 3) 33 [.inr (.inr 2), .inl (nI a)] μ = some (some (.inl (nI m')), μ) ∧ ∀ y, m'.testBit y = true ↔ g_an S a y := by
  have hn := ok_n hS
  obtain ⟨m', e1, e2, e3⟩ := sW_anc_go d hS hR (nI a) 0 (by omega) none (2 ^ a) (bs_pow_lt (by omega)) ((bs_pow_iff a a).2 rfl) (fun y hy => by rw [(bs_pow_iff a y).1 hy]; exact fun _ h _ => h) (Or.inr (by
    have h0 : g_cnt (gN S) (fun _ => false) = 0 := by unfold g_cnt; simp
    have := cnt_lt (n := gN S) (p := fun _ => false) (q := fun x => (2 ^ a).testBit x) (fun x _ h => by cases h) ha ((bs_pow_iff a a).2 rfl) rfl
    omega))
  refine ⟨m', e1, ?_, e3⟩
  rw [qX2_ancestorsAnd _ (Or.inl rfl), bs_one a (by omega), show (0 : Int32) = nI 0 from rfl]
  exact e2
