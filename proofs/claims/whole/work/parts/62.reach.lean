/-! PURE: the reference's reach. -/
def bw_rb (S : bwS) (μ : bwM) (rb : Nat → Bool) : Prop := ∀ x, x < gN S → μ.1 40 x = if rb x = true then 1 else 0
/-- what reach leaves alone -/
def bw_f40 (μ ν : bwM) : Prop := (∀ c, c ≠ 40 → ν.1 c = μ.1 c) ∧ ν.2 = μ.2
theorem f40_refl (μ : bwM) : bw_f40 μ μ := ⟨fun _ _ => rfl, rfl⟩
theorem f40_trans {μ ν π : bwM} (h : bw_f40 μ ν) (h' : bw_f40 ν π) : bw_f40 μ π := ⟨fun c hc => (h'.1 c hc).trans (h.1 c hc), h'.2.trans h.2⟩
theorem f40_r {S : bwS} {μ ν : bwM} (h : bw_f40 μ ν) (hR : bwR' S μ) : bwR' S ν := fr_r hR (fun i hi _ => h.1 _ (by omega)) (by rw [h.1 30 (by omega)]) (by rw [h.1 30 (by omega)])
theorem f40_si (μ : bwM) (j : Nat) (x : Int32) : bw_f40 μ (bw_si μ 40 j x) := ⟨fun c hc => funext (fun i => bq_sin _ _ (by omega)), rfl⟩
theorem sM_r_init (d : Nat) {S : bwS} (hS : bwOK S) {a : Nat} (ha : a < gN S) (x2 : Int32) (k : Nat) (hk : k ≤ gN S) (μ : bwM) (hR : bwR' S μ) (hb : ∀ x, x < k → μ.1 40 x = if (x == a) = true then 1 else 0) : ∃ ν, eX4_reach d 2 [some (.inr (.inr 30)), some (.inl (nI a)), some (.inl x2), some (.inl (nI k)), none, none] [] μ = eX4_reach d 34 [some (.inr (.inr 30)), some (.inl (nI a)), some (.inl x2), some (.inl 1), none, none] [] ν ∧ bw_rb S ν (fun x => x == a) ∧ bw_f40 μ ν := by
  have hn := ok_n hS
  induction hj : gN S - k generalizing k μ with
  | zero =>
    have : k = gN S := by omega
    subst this
    refine ⟨μ, ?_, hb, f40_refl μ⟩
    rw [qX4_reach_2, rr_n hR, if_pos (nI_le (by omega) (by omega))]
  | succ j ih =>
    rw [qX4_reach_2, rr_n hR, if_neg (nI_ge (by omega) (by omega))]
    have key : ∀ z : Int32, z = (if (k == a) = true then 1 else 0) → vp_nar .boolean z = z → ∃ ν, eX4_reach d 25 [some (.inr (.inr 30)), some (.inl (nI a)), some (.inl x2), some (.inl (nI k)), none, none] [.inl z, .inl (nI k), .inr (.inr 40)] μ = eX4_reach d 34 [some (.inr (.inr 30)), some (.inl (nI a)), some (.inl x2), some (.inl 1), none, none] [] ν ∧ bw_rb S ν (fun x => x == a) ∧ bw_f40 μ ν := by
      intro z hz hvn
      obtain ⟨ν, e1, e2, e3⟩ := ih (k + 1) (by omega) (bw_si μ 40 k z) (f40_r (f40_si μ k z) hR) (fun x hx => by
        by_cases hxk : x = k
        · rw [hxk, bq_sie]; exact hz
        · rw [bq_sin _ _ (by omega)]; exact hb x (by omega)) (by omega)
      refine ⟨ν, ?_, e2, f40_trans (f40_si μ k z) e3⟩
      rw [qX4_reach_25, if_pos ((bq_ii (by omega)).2 (by omega)), nI_clamp (by omega), hvn, nI_1]
      exact e1
    by_cases hka : k = a
    · rw [if_pos (by rw [hka])]
      exact key 1 (by rw [if_pos (by simpa using hka)]) bq_vn1
    · rw [if_neg (fun hh => hka ((nI_eq (by omega) (by omega)).1 hh))]
      exact key 0 (by rw [if_neg (by simpa using hka)]) bq_vn0
theorem bq_b1 {rb : Nat → Bool} {x : Nat} : ((if rb x = true then (1 : Int32) else 0) = 0) ↔ rb x = false := by
  cases rb x with
  | true => exact ⟨fun h => absurd h (by decide), fun h => by cases h⟩
  | false => exact ⟨fun _ => rfl, fun _ => rfl⟩
theorem sM_r_par (d : Nat) {S : bwS} (hS : bwOK S) (x1 x2 : Int32) {b : Nat} (hb : b < gN S) (k : Nat) (hk : k ≤ (gP S b).length) (mf : Int32) (rb : Nat → Bool) (μ : bwM) (hR : bwR' S μ) (hrb : bw_rb S μ rb) : ∃ (ν : bwM) (rb' : Nat → Bool) (mf' : Int32) (o5 : Option bwV), eX4_reach d 82 [some (.inr (.inr 30)), some (.inl x1), some (.inl x2), some (.inl mf), some (.inl (nI b)), some (.inl (nI k))] [] μ = eX4_reach d 133 [some (.inr (.inr 30)), some (.inl x1), some (.inl x2), some (.inl mf'), some (.inl (nI b)), o5] [] ν ∧ bw_rb S ν rb' ∧ bw_f40 μ ν ∧ ((rb' = rb ∧ mf' = mf ∧ ∀ p, p ∈ (gP S b).drop k → rb p = false) ∨ (rb' = bp_up rb b true ∧ mf' = 1 ∧ ∃ p, p ∈ (gP S b).drop k ∧ rb p = true)) := by
  have hn := ok_n hS
  have h3 := ok_p3 hS hb
  induction hj : (gP S b).length - k generalizing k mf rb μ with
  | zero =>
    have : k = (gP S b).length := by omega
    subst this
    refine ⟨μ, rb, mf, some (.inl (nI (gP S b).length)), ?_, hrb, f40_refl μ, Or.inl ⟨rfl, rfl, fun p hp => by simp at hp⟩⟩
    rw [qX4_reach_82, if_pos ((bq_ii (by omega)).2 (by omega)), nI_clamp (n := b) (by omega), rm_c hR hb, if_pos (nI_le (by omega) (by omega))]
  | succ j ih =>
    have hk' : k < (gP S b).length := by omega
    have hp := ok_pk hS hb hk'
    rw [qX4_reach_82, if_pos ((bq_ii (by omega)).2 (by omega)), nI_clamp (n := b) (by omega), rm_c hR hb, if_neg (nI_ge (by omega) (by omega)), bq_3, if_pos ((bq_ii (by omega)).2 (by omega)), nI_clamp (n := 3 * b + k) (by omega), rm_p hR hb hk', if_pos ((bq_ii (by omega)).2 (by omega)), nI_clamp (by omega), hrb _ hp, List.drop_eq_getElem_cons hk']
    by_cases hr : rb (gP S b)[k] = true
    · rw [if_neg (fun hh => by rw [bq_b1.1 hh] at hr; cases hr), qX4_reach_117, if_pos ((bq_ii (by omega)).2 (by omega)), nI_clamp (by omega), bq_vn1, qX4_reach_127, nI_1]
      have hf := f40_si μ b 1
      obtain ⟨ν, rb', mf', o5, e1, e2, e3, e4⟩ := ih (k + 1) (by omega) 1 (bp_up rb b true) (bw_si μ 40 b 1) (f40_r hf hR) (fun x hx => by
        by_cases hxb : x = b
        · rw [hxb, bq_sie, bp_up_eq, if_pos rfl]
        · rw [bq_sin _ _ (by omega), bp_up_ne _ hxb]; exact hrb x hx) (by omega)
      refine ⟨ν, rb', mf', o5, e1, e2, f40_trans hf e3, Or.inr ?_⟩
      rcases e4 with ⟨g1, g2, _⟩ | ⟨g1, g2, _⟩
      · exact ⟨g1, g2, _, List.mem_cons_self, hr⟩
      · refine ⟨?_, g2, _, List.mem_cons_self, hr⟩
        rw [g1]
        funext y
        by_cases hyb : y = b
        · rw [hyb, bp_up_eq, bp_up_eq]
        · rw [bp_up_ne _ hyb]
    · have hr' : rb (gP S b)[k] = false := Bool.eq_false_iff.2 hr
      rw [if_pos (bq_b1.2 hr'), qX4_reach_114, qX4_reach_127, nI_1]
      obtain ⟨ν, rb', mf', o5, e1, e2, e3, e4⟩ := ih (k + 1) (by omega) mf rb μ hR hrb (by omega)
      refine ⟨ν, rb', mf', o5, e1, e2, e3, ?_⟩
      rcases e4 with ⟨g1, g2, g3⟩ | ⟨g1, g2, p, g3, g4⟩
      · refine Or.inl ⟨g1, g2, fun p hp => ?_⟩
        rcases List.mem_cons.1 hp with h | h
        · rw [h]; exact hr'
        · exact g3 p h
      · exact Or.inr ⟨g1, g2, p, List.mem_cons_of_mem _ g3, g4⟩
/-- one pass -/
theorem sM_r_pass (d : Nat) {S : bwS} (hS : bwOK S) (x1 : Int32) (cut : Bool) (rb0 : Nat → Bool) (b : Nat) (hb : b ≤ gN S) (mf : Int32) (rb : Nat → Bool) (μ : bwM) (hR : bwR' S μ) (hrb : bw_rb S μ rb) (hsub : ∀ y, rb0 y = true → rb y = true) (hs : ∀ Q : Nat → Prop, (∀ y, rb0 y = true → Q y) → (∀ t p, t < gN S → (cut = true → gD S t = none) → p ∈ gP S t → Q p → Q t) → ∀ y, rb y = true → Q y) (hmf : (mf = 0 ∧ rb = rb0 ∧ ∀ t p, t < b → (cut = true → gD S t = none) → p ∈ gP S t → rb0 p = true → rb0 t = true) ∨ (mf = 1 ∧ ∃ y, y < gN S ∧ rb y = true ∧ rb0 y = false)) : ∃ (ν : bwM) (rb' : Nat → Bool) (mf' : Int32), eX4_reach d 43 [some (.inr (.inr 30)), some (.inl x1), some (.inl (if cut = true then 1 else 0)), some (.inl mf), some (.inl (nI b)), none] [] μ = eX4_reach d 34 [some (.inr (.inr 30)), some (.inl x1), some (.inl (if cut = true then 1 else 0)), some (.inl mf'), some (.inl (nI (gN S))), none] [] ν ∧ bw_rb S ν rb' ∧ bw_f40 μ ν ∧ (∀ y, rb0 y = true → rb' y = true) ∧ (∀ Q : Nat → Prop, (∀ y, rb0 y = true → Q y) → (∀ t p, t < gN S → (cut = true → gD S t = none) → p ∈ gP S t → Q p → Q t) → ∀ y, rb' y = true → Q y) ∧ ((mf' = 0 ∧ rb' = rb0 ∧ ∀ t p, t < gN S → (cut = true → gD S t = none) → p ∈ gP S t → rb0 p = true → rb0 t = true) ∨ (mf' = 1 ∧ ∃ y, y < gN S ∧ rb' y = true ∧ rb0 y = false)) := by
  have hn := ok_n hS
  induction hj : gN S - b generalizing b mf rb μ with
  | zero =>
    have : b = gN S := by omega
    subst this
    refine ⟨μ, rb, mf, ?_, hrb, f40_refl μ, hsub, hs, hmf⟩
    rw [qX4_reach_43, rr_n hR, if_pos (nI_le (by omega) (by omega))]
  | succ j ih =>
    have hb' : b < gN S := by omega
    rw [qX4_reach_43, rr_n hR, if_neg (nI_ge (by omega) (by omega))]
    simp only [bq_it (show b < 12 by omega) (by decide)]
    rw [nI_clamp (by omega), hrb b hb', rm_d hR hb']
    -- the thing b is passed over
    have skip : ∀ o5 : Option bwV, ((cut = true → gD S b = none) → ∀ p, p ∈ gP S b → rb0 p = true → rb = rb0 → rb0 b = true) → ∃ (ν : bwM) (rb' : Nat → Bool) (mf' : Int32), eX4_reach d 133 [some (.inr (.inr 30)), some (.inl x1), some (.inl (if cut = true then 1 else 0)), some (.inl mf), some (.inl (nI b)), o5] [] μ = eX4_reach d 34 [some (.inr (.inr 30)), some (.inl x1), some (.inl (if cut = true then 1 else 0)), some (.inl mf'), some (.inl (nI (gN S))), none] [] ν ∧ bw_rb S ν rb' ∧ bw_f40 μ ν ∧ (∀ y, rb0 y = true → rb' y = true) ∧ (∀ Q : Nat → Prop, (∀ y, rb0 y = true → Q y) → (∀ t p, t < gN S → (cut = true → gD S t = none) → p ∈ gP S t → Q p → Q t) → ∀ y, rb' y = true → Q y) ∧ ((mf' = 0 ∧ rb' = rb0 ∧ ∀ t p, t < gN S → (cut = true → gD S t = none) → p ∈ gP S t → rb0 p = true → rb0 t = true) ∨ (mf' = 1 ∧ ∃ y, y < gN S ∧ rb' y = true ∧ rb0 y = false)) := fun o5 hno => by
      rw [qX4_reach_133, nI_1]
      refine ih (b + 1) (by omega) mf rb μ hR hrb hsub hs ?_ (by omega)
      rcases hmf with ⟨g1, g2, g3⟩ | g
      · refine Or.inl ⟨g1, g2, fun t p ht hd hp hr => ?_⟩
        by_cases htb : t = b
        · subst htb; exact hno hd p hp hr g2
        · exact g3 t p (by omega) hd hp hr
      · exact Or.inr g
    by_cases hrbb : rb b = true
    · rw [if_neg (fun hh => by rw [bq_b1.1 hh] at hrbb; cases hrbb)]
      exact skip none (fun _ p _ _ he => by rw [← he]; exact hrbb)
    · have hrb' : rb b = false := Bool.eq_false_iff.2 hrbb
      rw [if_pos (bq_b1.2 hrb')]
      have go : (cut = true → gD S b = none) → ∃ (ν : bwM) (rb' : Nat → Bool) (mf' : Int32), eX4_reach d 79 [some (.inr (.inr 30)), some (.inl x1), some (.inl (if cut = true then 1 else 0)), some (.inl mf), some (.inl (nI b)), none] [] μ = eX4_reach d 34 [some (.inr (.inr 30)), some (.inl x1), some (.inl (if cut = true then 1 else 0)), some (.inl mf'), some (.inl (nI (gN S))), none] [] ν ∧ bw_rb S ν rb' ∧ bw_f40 μ ν ∧ (∀ y, rb0 y = true → rb' y = true) ∧ (∀ Q : Nat → Prop, (∀ y, rb0 y = true → Q y) → (∀ t p, t < gN S → (cut = true → gD S t = none) → p ∈ gP S t → Q p → Q t) → ∀ y, rb' y = true → Q y) ∧ ((mf' = 0 ∧ rb' = rb0 ∧ ∀ t p, t < gN S → (cut = true → gD S t = none) → p ∈ gP S t → rb0 p = true → rb0 t = true) ∨ (mf' = 1 ∧ ∃ y, y < gN S ∧ rb' y = true ∧ rb0 y = false)) := fun hd => by
        obtain ⟨ν, rb1, mf1, o5, e1, e2, e3, e4⟩ := sM_r_par d hS x1 (if cut = true then 1 else 0) hb' 0 (by omega) mf rb μ hR hrb
        rw [List.drop_zero] at e4
        rw [qX4_reach_79, show (0 : Int32) = nI 0 from rfl]
        rcases e4 with ⟨g1, g2, g3⟩ | ⟨g1, g2, p, g3, g4⟩
        · subst g1; subst g2
          obtain ⟨τ, rb2, mf2, f1, f2, f3, f4, f5, f6⟩ := ih (b + 1) (by omega) mf1 rb1 ν (f40_r e3 hR) e2 hsub hs (by
            rcases hmf with ⟨q1, q2, q3⟩ | q
            · refine Or.inl ⟨q1, q2, fun t p ht hd' hp hr => ?_⟩
              by_cases htb : t = b
              · subst htb
                have := g3 p hp
                rw [q2, hr] at this
                cases this
              · exact q3 t p (by omega) hd' hp hr
            · exact Or.inr q) (by omega)
          refine ⟨τ, rb2, mf2, ?_, f2, f40_trans e3 f3, f4, f5, f6⟩
          refine Eq.trans e1 ?_
          rw [qX4_reach_133, nI_1]
          exact f1
        · subst g1; subst g2
          have hb0 : rb0 b = false := by
            cases hq : rb0 b with
            | false => rfl
            | true => rw [hsub b hq] at hrb'; cases hrb'
          obtain ⟨τ, rb2, mf2, f1, f2, f3, f4, f5, f6⟩ := ih (b + 1) (by omega) 1 (bp_up rb b true) ν (f40_r e3 hR) e2 (fun y hy => by
            by_cases hyb : y = b
            · rw [hyb, bp_up_eq]
            · rw [bp_up_ne _ hyb]; exact hsub y hy) (fun Q q1 q2 y hy => by
            by_cases hyb : y = b
            · rw [hyb]; exact q2 b p hb' hd g3 (hs Q q1 q2 p g4)
            · rw [bp_up_ne _ hyb] at hy; exact hs Q q1 q2 y hy) (Or.inr ⟨rfl, b, hb', bp_up_eq _ _ _, hb0⟩) (by omega)
          refine ⟨τ, rb2, mf2, ?_, f2, f40_trans e3 f3, f4, f5, f6⟩
          refine Eq.trans e1 ?_
          rw [qX4_reach_133, nI_1]
          exact f1
      cases cut with
      | false =>
        rw [if_pos (show (if false = true then (1 : Int32) else 0) = 0 from rfl)]
        exact go (fun h => by cases h)
      | true =>
        rw [if_neg (show ¬ (if true = true then (1 : Int32) else 0) = 0 by decide)]
        by_cases hd : gD S b = none
        · rw [if_pos ((bo_lt _ (ok_ds hS hb')).2 hd)]
          exact go (fun _ => hd)
        · rw [if_neg (fun hh => hd ((bo_lt _ (ok_ds hS hb')).1 hh))]
          exact skip none (fun hh => absurd (hh rfl) hd)
theorem sM_r_go (d : Nat) {S : bwS} (hS : bwOK S) (x1 : Int32) (cut : Bool) {a : Nat} (u : Nat) (o4 : Option bwV) (rb : Nat → Bool) (hu : gN S - g_cnt (gN S) rb = u) (ha : rb a = true) (hs : ∀ y, rb y = true → g_rc S cut a y) (μ : bwM) (hR : bwR' S μ) (hrb : bw_rb S μ rb) : ∃ (ν : bwM) (rb' : Nat → Bool), eX4_reach d 34 [some (.inr (.inr 30)), some (.inl x1), some (.inl (if cut = true then 1 else 0)), some (.inl 1), o4, none] [] μ = some (none, ν) ∧ bw_rb S ν rb' ∧ bw_f40 μ ν ∧ ∀ y, y < gN S → (rb' y = true ↔ g_rc S cut a y) := by
  induction u using Nat.strongRecOn generalizing o4 rb μ with
  | ind u ih =>
    obtain ⟨ν, rb1, mf1, e1, e2, e3, e4, e5, e6⟩ := sM_r_pass d hS x1 cut rb 0 (by omega) 0 rb μ hR hrb (fun _ h => h) (fun Q q1 _ y hy => q1 y hy) (Or.inl ⟨rfl, rfl, fun t p ht => by omega⟩)
    rw [qX4_reach_34, if_neg bq_ne10, show (0 : Int32) = nI 0 from rfl]
    have hs1 : ∀ y, rb1 y = true → g_rc S cut a y := fun y hy Q q1 q2 => e5 Q (fun z hz => hs z hz Q q1 q2) q2 y hy
    rcases e6 with ⟨g1, g2, g3⟩ | ⟨g1, y, g2, g3, g4⟩
    · subst g1; subst g2
      refine ⟨ν, rb1, ?_, e2, e3, fun y hy => ⟨hs y, fun h => h (fun y => rb1 y = true) ha g3⟩⟩
      refine Eq.trans e1 ?_
      rw [qX4_reach_34, if_pos rfl]
    · subst g1
      have hlt := cnt_lt (n := gN S) (p := rb) (q := rb1) (fun x _ hx => e4 x hx) g2 g3 g4
      have hle := cnt_le (gN S) rb1
      obtain ⟨τ, rb2, f1, f2, f3, f4⟩ := ih (gN S - g_cnt (gN S) rb1) (by omega) (some (.inl (nI (gN S)))) rb1 rfl (e4 a ha) hs1 ν (f40_r e3 hR) e2
      exact ⟨τ, rb2, e1.trans f1, f2, f40_trans e3 f3, f4⟩
/-- reach -/
theorem sM_reach (d : Nat) {S : bwS} (hS : bwOK S) (cut : Bool) {a : Nat} (ha : a < gN S) {μ : bwM} (hR : bwR' S μ) : ∃ (ν : bwM) (rb : Nat → Bool), bw_call (d + 1) 91 [.inr (.inr 30), .inl (nI a), .inl (if cut = true then 1 else 0)] μ = some (none, ν) ∧ bw_rb S ν rb ∧ bw_f40 μ ν ∧ ∀ y, y < gN S → (rb y = true ↔ g_rc S cut a y) := by
  obtain ⟨ν, e1, e2, e3⟩ := sM_r_init d hS ha (if cut = true then 1 else 0) 0 (by omega) μ hR (fun x hx => by omega)
  obtain ⟨τ, rb, f1, f2, f3, f4⟩ := sM_r_go d hS (nI a) cut (a := a) _ none (fun x => x == a) rfl (by simp) (fun y hy => by
    have : y = a := by simpa using hy
    rw [this]; exact rc_refl S cut a) ν (f40_r e3 hR) e2
  exact ⟨τ, rb, by rw [qX4_reach]; exact e1.trans f1, f2, f40_trans e3 f3, f4⟩
