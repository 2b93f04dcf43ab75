/-! PURE: the class's hasOpenRoad. -/
theorem sW_psn (d : Nat) {S : bwS} (hS : bwOK S) {μ : bwM} (hR : bwC 2 S μ) {x : Nat} (hx : x < gN S) : ∃ q, q < 4096 ∧ bw_call (d + 3) 34 [.inr (.inr 2), .inl (nI x)] μ = some (some (.inl (nI q)), μ) ∧ ∀ y, q.testBit y = true ↔ g_ld S y x := by
  have hn := ok_n hS
  rw [qX2_parentSetNow _ (Or.inl rfl), if_pos ((bq_ii (by omega)).2 (by omega)), nI_clamp (by omega), ra_d hR.1 hx]
  by_cases hd : gD S x = none
  · obtain ⟨q, q1, q2, q3⟩ := sW_ps d (Or.inl rfl) hS hR hx
    refine ⟨q, q1, ?_, fun y => ?_⟩
    · rw [if_pos ((bo_m1 _ (ok_ds hS hx)).2 hd), q2, bq_I]
    · rw [q3]; exact ⟨fun h => ⟨hx, hd, h⟩, fun h => h.2.2⟩
  · refine ⟨0, by omega, ?_, fun y => ?_⟩
    · rw [if_neg (fun hh => hd ((bo_m1 _ (ok_ds hS hx)).1 hh))]; rfl
    · rw [bs_zero]; exact ⟨fun h => (by cases h), fun h => absurd h.2.1 hd⟩
theorem sW_csn_go (d : Nat) {S : bwS} (hS : bwOK S) {μ : bwM} (hR : bwC 2 S μ) {p : Nat} (hp : p < gN S) (k : Nat) (hk : k ≤ gN S) (m : Nat) (hm : m < 4096) (hb : ∀ y, m.testBit y = true ↔ y < k ∧ g_ld S p y) : ∃ q, q < 4096 ∧ eX2_childSetNow (d + 3) 4 [some (.inr (.inr 2)), some (.inl (nI p)), some (.inl (nI m)), some (.inl (nI k))] [] μ = some (some (.inl (nI q)), μ) ∧ ∀ y, q.testBit y = true ↔ g_ld S p y := by
  have hn := ok_n hS
  have hw : (2 : Nat) = 2 ∨ (2 : Nat) = 12 := Or.inl rfl
  induction hj : gN S - k generalizing k m with
  | zero =>
    have : k = gN S := by omega
    subst this
    refine ⟨m, hm, ?_, fun y => ?_⟩
    · rw [qX2_childSetNow_4 _ hw, rc_n hR, if_pos (nI_le (by omega) (by omega))]
    · rw [hb]; exact ⟨fun h => h.2, fun h => ⟨h.1, h⟩⟩
  | succ j ih =>
    obtain ⟨q, q1, q2, q3⟩ := sW_psn d hS hR (x := k) (by omega)
    rw [qX2_childSetNow_4 _ hw, rc_n hR, if_neg (nI_ge (by omega) (by omega)), q2, bq_I, sB_isIn _ q1 (by omega), bq_I]
    by_cases hin : q.testBit p = true
    · rw [if_pos hin, if_neg bq_ne10, bs_one k (by omega), nI_or, qX2_childSetNow_30 _ hw, nI_1]
      refine ih (k + 1) (by omega) (m ||| 2 ^ k) (bs_or_lt hm (bs_pow_lt (by omega))) (fun y => ?_) (by omega)
      rw [bs_or_iff, bs_pow_iff, hb]
      constructor
      · rintro (h | h)
        · exact ⟨by omega, h.2⟩
        · rw [h]; exact ⟨by omega, (q3 p).1 hin⟩
      · intro h
        by_cases hyk : y = k
        · exact Or.inr hyk
        · exact Or.inl ⟨by omega, h.2⟩
    · rw [if_neg hin, if_pos rfl, qX2_childSetNow_30 _ hw, nI_1]
      refine ih (k + 1) (by omega) m hm (fun y => ?_) (by omega)
      rw [hb]
      constructor
      · exact fun h => ⟨by omega, h.2⟩
      · intro h
        by_cases hyk : y = k
        · rw [hyk] at h; exact absurd ((q3 p).2 h.2) hin
        · exact ⟨by omega, h.2⟩
theorem sW_csn (d : Nat) {S : bwS} (hS : bwOK S) {μ : bwM} (hR : bwC 2 S μ) {p : Nat} (hp : p < gN S) : ∃ q, q < 4096 ∧ bw_call (d + 4) 35 [.inr (.inr 2), .inl (nI p)] μ = some (some (.inl (nI q)), μ) ∧ ∀ y, q.testBit y = true ↔ g_ld S p y := by
  obtain ⟨q, q1, q2, q3⟩ := sW_csn_go d hS hR hp 0 (by omega) 0 (by omega) (fun y => by rw [bs_zero]; exact ⟨fun h => (by cases h), fun h => by omega⟩)
  exact ⟨q, q1, by rw [qX2_childSetNow _ (Or.inl rfl)]; exact q2, q3⟩
theorem bq_t1 {p : Bool} : ((if p = true then (1 : Int32) else 0) = 0) ↔ p = false := by
  cases p with
  | true => exact ⟨fun h => absurd h (by decide), fun h => by cases h⟩
  | false => exact ⟨fun _ => rfl, fun _ => rfl⟩
theorem sW_road_step (d : Nat) {S : bwS} (hS : bwOK S) {μ : bwM} (hR : bwC 2 S μ) (x1 x2 x5 : Int32) (o7 o8 : Option bwV) {t : Nat} (ht : t < gN S) {A B : Nat} (hA : A < 4096) (hB : B < 4096) : ∃ (A' B' : Nat) (p7 p8 : Option bwV), A' < 4096 ∧ B' < 4096 ∧ eX2_hasOpenRoad (d + 4) 30 [some (.inr (.inr 2)), some (.inl x1), some (.inl x2), some (.inl (nI A)), some (.inl (nI B)), some (.inl x5), some (.inl (nI t)), o7, o8] [] μ = eX2_hasOpenRoad (d + 4) 30 [some (.inr (.inr 2)), some (.inl x1), some (.inl x2), some (.inl (nI A')), some (.inl (nI B')), some (.inl x5), some (.inl (nI (t + 1))), p7, p8] [] μ ∧ (∀ y, A'.testBit y = true ↔ A.testBit y = true ∨ (g_free S t ∧ (A.testBit t = true ∨ B.testBit t = true) ∧ g_ld S t y)) ∧ (∀ y, B'.testBit y = true ↔ B.testBit y = true ∨ (((g_free S t ∧ B.testBit t = true) ∨ (gS S t ≠ none ∧ A.testBit t = true)) ∧ g_ld S y t)) := by
  have hn := ok_n hS
  have hw : (2 : Nat) = 2 ∨ (2 : Nat) = 12 := Or.inl rfl
  -- the second half, from 84 on
  have half : ∀ A1 : Nat, ∃ (B' : Nat), B' < 4096 ∧ eX2_hasOpenRoad (d + 4) 84 [some (.inr (.inr 2)), some (.inl x1), some (.inl x2), some (.inl (nI A1)), some (.inl (nI B)), some (.inl x5), some (.inl (nI t)), some (.inl (if A.testBit t = true then 1 else 0)), some (.inl (if B.testBit t = true then 1 else 0))] [] μ = eX2_hasOpenRoad (d + 4) 30 [some (.inr (.inr 2)), some (.inl x1), some (.inl x2), some (.inl (nI A1)), some (.inl (nI B')), some (.inl x5), some (.inl (nI (t + 1))), some (.inl (if A.testBit t = true then 1 else 0)), some (.inl (if B.testBit t = true then 1 else 0))] [] μ ∧ (∀ y, B'.testBit y = true ↔ B.testBit y = true ∨ (((g_free S t ∧ B.testBit t = true) ∨ (gS S t ≠ none ∧ A.testBit t = true)) ∧ g_ld S y t)) := by
    intro A1
    obtain ⟨q, q1, q2, q3⟩ := sW_psn (d + 1) hS hR ht
    have h114 : ((g_free S t ∧ B.testBit t = true) ∨ (gS S t ≠ none ∧ A.testBit t = true)) → ∃ (B' : Nat), B' < 4096 ∧ eX2_hasOpenRoad (d + 4) 114 [some (.inr (.inr 2)), some (.inl x1), some (.inl x2), some (.inl (nI A1)), some (.inl (nI B)), some (.inl x5), some (.inl (nI t)), some (.inl (if A.testBit t = true then 1 else 0)), some (.inl (if B.testBit t = true then 1 else 0))] [] μ = eX2_hasOpenRoad (d + 4) 30 [some (.inr (.inr 2)), some (.inl x1), some (.inl x2), some (.inl (nI A1)), some (.inl (nI B')), some (.inl x5), some (.inl (nI (t + 1))), some (.inl (if A.testBit t = true then 1 else 0)), some (.inl (if B.testBit t = true then 1 else 0))] [] μ ∧ (∀ y, B'.testBit y = true ↔ B.testBit y = true ∨ (((g_free S t ∧ B.testBit t = true) ∨ (gS S t ≠ none ∧ A.testBit t = true)) ∧ g_ld S y t)) := fun hc => by
      refine ⟨B ||| q, bs_or_lt hB q1, ?_, fun y => ?_⟩
      · rw [qX2_hasOpenRoad_114 _ hw, q2, bq_I, nI_or, qX2_hasOpenRoad_125 _ hw, nI_1]
      · rw [bs_or_iff, q3]
        exact ⟨fun h => h.elim Or.inl (fun h => Or.inr ⟨hc, h⟩), fun h => h.elim Or.inl (fun h => Or.inr h.2)⟩
    have h125 : ¬ ((g_free S t ∧ B.testBit t = true) ∨ (gS S t ≠ none ∧ A.testBit t = true)) → ∃ (B' : Nat), B' < 4096 ∧ eX2_hasOpenRoad (d + 4) 125 [some (.inr (.inr 2)), some (.inl x1), some (.inl x2), some (.inl (nI A1)), some (.inl (nI B)), some (.inl x5), some (.inl (nI t)), some (.inl (if A.testBit t = true then 1 else 0)), some (.inl (if B.testBit t = true then 1 else 0))] [] μ = eX2_hasOpenRoad (d + 4) 30 [some (.inr (.inr 2)), some (.inl x1), some (.inl x2), some (.inl (nI A1)), some (.inl (nI B')), some (.inl x5), some (.inl (nI (t + 1))), some (.inl (if A.testBit t = true then 1 else 0)), some (.inl (if B.testBit t = true then 1 else 0))] [] μ ∧ (∀ y, B'.testBit y = true ↔ B.testBit y = true ∨ (((g_free S t ∧ B.testBit t = true) ∨ (gS S t ≠ none ∧ A.testBit t = true)) ∧ g_ld S y t)) := fun hc => by
      refine ⟨B, hB, ?_, fun y => ?_⟩
      · rw [qX2_hasOpenRoad_125 _ hw, nI_1]
      · exact ⟨Or.inl, fun h => h.elim id (fun h => absurd h.1 hc)⟩
    have h98 : ¬ (g_free S t ∧ B.testBit t = true) → ∃ (B' : Nat), B' < 4096 ∧ eX2_hasOpenRoad (d + 4) 98 [some (.inr (.inr 2)), some (.inl x1), some (.inl x2), some (.inl (nI A1)), some (.inl (nI B)), some (.inl x5), some (.inl (nI t)), some (.inl (if A.testBit t = true then 1 else 0)), some (.inl (if B.testBit t = true then 1 else 0))] [] μ = eX2_hasOpenRoad (d + 4) 30 [some (.inr (.inr 2)), some (.inl x1), some (.inl x2), some (.inl (nI A1)), some (.inl (nI B')), some (.inl x5), some (.inl (nI (t + 1))), some (.inl (if A.testBit t = true then 1 else 0)), some (.inl (if B.testBit t = true then 1 else 0))] [] μ ∧ (∀ y, B'.testBit y = true ↔ B.testBit y = true ∨ (((g_free S t ∧ B.testBit t = true) ∨ (gS S t ≠ none ∧ A.testBit t = true)) ∧ g_ld S y t)) := fun hc => by
      rw [qX2_hasOpenRoad_98 _ hw, if_pos ((bq_ii (by omega)).2 (by omega)), nI_clamp (by omega), ra_s hR.1 ht]
      by_cases hs : gS S t = none
      · rw [if_pos ((bo_m1 _ (ok_ss hS ht)).2 hs)]
        exact h125 (fun h => h.elim hc (fun h => h.1 hs))
      · rw [if_neg (fun hh => hs ((bo_m1 _ (ok_ss hS ht)).1 hh))]
        by_cases hAt : A.testBit t = true
        · rw [if_neg (fun hh => by rw [bq_t1.1 hh] at hAt; cases hAt)]
          exact h114 (Or.inr ⟨hs, hAt⟩)
        · rw [if_pos (bq_t1.2 (Bool.eq_false_iff.2 hAt))]
          exact h125 (fun h => h.elim hc (fun h => hAt h.2))
    rw [qX2_hasOpenRoad_84 _ hw]
    by_cases hf : g_free S t
    · rw [(sW_free _ hw hS hR ht).1 hf, bq_I, if_neg bq_ne10]
      by_cases hBt : B.testBit t = true
      · rw [if_neg (fun hh => by rw [bq_t1.1 hh] at hBt; cases hBt)]
        exact h114 (Or.inl ⟨hf, hBt⟩)
      · rw [if_pos (bq_t1.2 (Bool.eq_false_iff.2 hBt))]
        exact h98 (fun h => hBt h.2)
    · rw [(sW_free _ hw hS hR ht).2 hf, bq_I, if_pos rfl]
      exact h98 (fun h => hf h.1)
  have first : (g_free S t ∧ (A.testBit t = true ∨ B.testBit t = true)) → ∃ A1, A1 < 4096 ∧ eX2_hasOpenRoad (d + 4) 75 [some (.inr (.inr 2)), some (.inl x1), some (.inl x2), some (.inl (nI A)), some (.inl (nI B)), some (.inl x5), some (.inl (nI t)), some (.inl (if A.testBit t = true then 1 else 0)), some (.inl (if B.testBit t = true then 1 else 0))] [] μ = eX2_hasOpenRoad (d + 4) 84 [some (.inr (.inr 2)), some (.inl x1), some (.inl x2), some (.inl (nI A1)), some (.inl (nI B)), some (.inl x5), some (.inl (nI t)), some (.inl (if A.testBit t = true then 1 else 0)), some (.inl (if B.testBit t = true then 1 else 0))] [] μ ∧ (∀ y, A1.testBit y = true ↔ A.testBit y = true ∨ (g_free S t ∧ (A.testBit t = true ∨ B.testBit t = true) ∧ g_ld S t y)) := fun hc => by
    obtain ⟨q, q1, q2, q3⟩ := sW_csn d hS hR ht
    refine ⟨A ||| q, bs_or_lt hA q1, ?_, fun y => ?_⟩
    · rw [qX2_hasOpenRoad_75 _ hw, q2, bq_I, nI_or]
    · rw [bs_or_iff, q3]
      exact ⟨fun h => h.elim Or.inl (fun h => Or.inr ⟨hc.1, hc.2, h⟩), fun h => h.elim Or.inl (fun h => Or.inr h.2.2)⟩
  rw [qX2_hasOpenRoad_30 _ hw, rc_n hR, if_neg (nI_ge (by omega) (by omega)), sB_isIn _ hA (by omega), bq_I, sB_isIn _ hB (by omega), bq_I]
  by_cases hf : g_free S t
  · rw [(sW_free _ hw hS hR ht).1 hf, bq_I, if_neg bq_ne10]
    by_cases hAt : A.testBit t = true
    · obtain ⟨A1, a1, a2, a3⟩ := first ⟨hf, Or.inl hAt⟩
      obtain ⟨B1, b1, b2, b3⟩ := half A1
      refine ⟨A1, B1, some (.inl (if A.testBit t = true then 1 else 0)), some (.inl (if B.testBit t = true then 1 else 0)), a1, b1, ?_, a3, b3⟩
      rw [if_neg (fun hh => by rw [bq_t1.1 hh] at hAt; cases hAt)]
      exact a2.trans b2
    · rw [if_pos (bq_t1.2 (Bool.eq_false_iff.2 hAt))]
      by_cases hBt : B.testBit t = true
      · obtain ⟨A1, a1, a2, a3⟩ := first ⟨hf, Or.inr hBt⟩
        obtain ⟨B1, b1, b2, b3⟩ := half A1
        refine ⟨A1, B1, some (.inl (if A.testBit t = true then 1 else 0)), some (.inl (if B.testBit t = true then 1 else 0)), a1, b1, ?_, a3, b3⟩
        rw [if_neg (fun hh => by rw [bq_t1.1 hh] at hBt; cases hBt)]
        exact a2.trans b2
      · obtain ⟨B1, b1, b2, b3⟩ := half A
        refine ⟨A, B1, some (.inl (if A.testBit t = true then 1 else 0)), some (.inl (if B.testBit t = true then 1 else 0)), hA, b1, ?_, fun y => ⟨Or.inl, fun h => h.elim id (fun h => h.2.1.elim (fun h => absurd h hAt) (fun h => absurd h hBt))⟩, b3⟩
        rw [if_pos (bq_t1.2 (Bool.eq_false_iff.2 hBt))]
        exact b2
  · rw [(sW_free _ hw hS hR ht).2 hf, bq_I, if_pos rfl]
    obtain ⟨B1, b1, b2, b3⟩ := half A
    exact ⟨A, B1, some (.inl (if A.testBit t = true then 1 else 0)), some (.inl (if B.testBit t = true then 1 else 0)), hA, b1, b2, fun y => ⟨Or.inl, fun h => h.elim id (fun h => absurd h.1 hf)⟩, b3⟩

/-- the rules of walks beyond their first step -/
def g_cl2 (S : bwS) (A B : Nat → Prop) : Prop := (∀ t u, t < gN S → g_free S t → (A t ∨ B t) → g_ld S t u → A u) ∧ (∀ t p, t < gN S → ((g_free S t ∧ B t) ∨ (gS S t ≠ none ∧ A t)) → g_ld S p t → B p)
theorem sW_road_in (d : Nat) {S : bwS} (hS : bwOK S) {μ : bwM} (hR : bwC 2 S μ) (x1 x2 x5 : Int32) (A0 B0 : Nat) (t : Nat) (ht : t ≤ gN S) (o7 o8 : Option bwV) (A B : Nat) (hA : A < 4096) (hB : B < 4096) (sA : ∀ y, A0.testBit y = true → A.testBit y = true) (sB : ∀ y, B0.testBit y = true → B.testBit y = true) (c1 : ∀ z u, z < t → g_free S z → (A0.testBit z = true ∨ B0.testBit z = true) → g_ld S z u → A.testBit u = true) (c2 : ∀ z p, z < t → ((g_free S z ∧ B0.testBit z = true) ∨ (gS S z ≠ none ∧ A0.testBit z = true)) → g_ld S p z → B.testBit p = true) (hmin : ∀ QA QB : Nat → Prop, (∀ y, A0.testBit y = true → QA y) → (∀ y, B0.testBit y = true → QB y) → g_cl2 S QA QB → (∀ y, A.testBit y = true → QA y) ∧ (∀ y, B.testBit y = true → QB y)) : ∃ A' B', A' < 4096 ∧ B' < 4096 ∧ eX2_hasOpenRoad (d + 4) 30 [some (.inr (.inr 2)), some (.inl x1), some (.inl x2), some (.inl (nI A)), some (.inl (nI B)), some (.inl x5), some (.inl (nI t)), o7, o8] [] μ = eX2_hasOpenRoad (d + 4) 16 [some (.inr (.inr 2)), some (.inl x1), some (.inl x2), some (.inl (nI A')), some (.inl (nI B')), some (.inl (x5 + 1)), some (.inl (nI (gN S))), none, none] [] μ ∧ (∀ y, A0.testBit y = true → A'.testBit y = true) ∧ (∀ y, B0.testBit y = true → B'.testBit y = true) ∧ (∀ z u, z < gN S → g_free S z → (A0.testBit z = true ∨ B0.testBit z = true) → g_ld S z u → A'.testBit u = true) ∧ (∀ z p, z < gN S → ((g_free S z ∧ B0.testBit z = true) ∨ (gS S z ≠ none ∧ A0.testBit z = true)) → g_ld S p z → B'.testBit p = true) ∧ (∀ QA QB : Nat → Prop, (∀ y, A0.testBit y = true → QA y) → (∀ y, B0.testBit y = true → QB y) → g_cl2 S QA QB → (∀ y, A'.testBit y = true → QA y) ∧ (∀ y, B'.testBit y = true → QB y)) := by
  have hn := ok_n hS
  induction hj : gN S - t generalizing t o7 o8 A B with
  | zero =>
    have : t = gN S := by omega
    subst this
    refine ⟨A, B, hA, hB, ?_, sA, sB, c1, c2, hmin⟩
    rw [qX2_hasOpenRoad_30 _ (Or.inl rfl), rc_n hR, if_pos (nI_le (by omega) (by omega))]
  | succ j ih =>
    obtain ⟨A1, B1, p7, p8, a1, b1, e, a2, b2⟩ := sW_road_step d hS hR x1 x2 x5 o7 o8 (t := t) (by omega) hA hB
    rw [e]
    refine ih (t + 1) (by omega) p7 p8 A1 B1 a1 b1 (fun y hy => (a2 y).2 (Or.inl (sA y hy))) (fun y hy => (b2 y).2 (Or.inl (sB y hy))) (fun z u hz hf hab hl => ?_) (fun z p hz hab hl => ?_) (fun QA QB q1 q2 q3 => ?_) (by omega)
    · by_cases hzt : z = t
      · subst hzt
        exact (a2 u).2 (Or.inr ⟨hf, hab.elim (fun h => Or.inl (sA z h)) (fun h => Or.inr (sB z h)), hl⟩)
      · exact (a2 u).2 (Or.inl (c1 z u (by omega) hf hab hl))
    · by_cases hzt : z = t
      · subst hzt
        exact (b2 p).2 (Or.inr ⟨hab.elim (fun h => Or.inl ⟨h.1, sB z h.2⟩) (fun h => Or.inr ⟨h.1, sA z h.2⟩), hl⟩)
      · exact (b2 p).2 (Or.inl (c2 z p (by omega) hab hl))
    · have hm := hmin QA QB q1 q2 q3
      refine ⟨fun y hy => ?_, fun y hy => ?_⟩
      · rcases (a2 y).1 hy with h | ⟨h1, h2, h3⟩
        · exact hm.1 y h
        · exact q3.1 t y (by omega) h1 (h2.elim (fun h => Or.inl (hm.1 t h)) (fun h => Or.inr (hm.2 t h))) h3
      · rcases (b2 y).1 hy with h | ⟨h1, h3⟩
        · exact hm.2 y h
        · exact q3.2 t y (by omega) (h1.elim (fun h => Or.inl ⟨h.1, hm.2 t h.2⟩) (fun h => Or.inr ⟨h.1, hm.1 t h.2⟩)) h3
theorem cnt_full {n : Nat} {p : Nat → Bool} (h : n ≤ g_cnt n p) : ∀ x, x < n → p x = true := by
  intro x hx
  cases hp : p x with
  | true => rfl
  | false =>
    have h1 := cnt_lt (n := n) (p := p) (q := fun _ => true) (fun _ _ _ => rfl) hx rfl hp
    have h2 := cnt_le n (fun _ => true)
    omega
theorem sW_road_go (d : Nat) {S : bwS} (hS : bwOK S) {μ : bwM} (hR : bwC 2 S μ) (x1 : Int32) {y : Nat} (hy : y < gN S) (IA IB : Nat → Prop) (k : Nat) (hk : k ≤ 2 * gN S) (o6 : Option bwV) (A B : Nat) (hA : A < 4096) (hB : B < 4096) (iA : ∀ z, IA z → A.testBit z = true) (iB : ∀ z, IB z → B.testBit z = true) (hmin : ∀ QA QB : Nat → Prop, (∀ z, IA z → QA z) → (∀ z, IB z → QB z) → g_cl2 S QA QB → (∀ y, A.testBit y = true → QA y) ∧ (∀ y, B.testBit y = true → QB y)) (hprog : g_cl2 S (fun z => A.testBit z = true) (fun z => B.testBit z = true) ∨ k ≤ g_cnt (gN S) (fun x => A.testBit x) + g_cnt (gN S) (fun x => B.testBit x)) : ∃ A' B' : Nat, eX2_hasOpenRoad (d + 4) 16 [some (.inr (.inr 2)), some (.inl x1), some (.inl (nI y)), some (.inl (nI A)), some (.inl (nI B)), some (.inl (nI k)), o6, none, none] [] μ = some (some (.inl (if A'.testBit y = true ∨ B'.testBit y = true then 1 else 0)), μ) ∧ (∀ z, IA z → A'.testBit z = true) ∧ (∀ z, IB z → B'.testBit z = true) ∧ g_cl2 S (fun z => A'.testBit z = true) (fun z => B'.testBit z = true) ∧ (∀ QA QB : Nat → Prop, (∀ z, IA z → QA z) → (∀ z, IB z → QB z) → g_cl2 S QA QB → (∀ y, A'.testBit y = true → QA y) ∧ (∀ y, B'.testBit y = true → QB y)) := by
  have hn := ok_n hS
  have hw : (2 : Nat) = 2 ∨ (2 : Nat) = 12 := Or.inl rfl
  have h2n : (2 : Int32) * nI (gN S) = nI (2 * gN S) := by rw [show (2 : Int32) = nI 2 from rfl, pk_mul]
  induction hj : 2 * gN S - k generalizing k o6 A B with
  | zero =>
    have : k = 2 * gN S := by omega
    subst this
    have hcl : g_cl2 S (fun z => A.testBit z = true) (fun z => B.testBit z = true) := by
      rcases hprog with h | h
      · exact h
      · have h1 := cnt_le (gN S) (fun x => A.testBit x)
        have h2 := cnt_le (gN S) (fun x => B.testBit x)
        have fA := cnt_full (n := gN S) (p := fun x => A.testBit x) (by omega)
        have fB := cnt_full (n := gN S) (p := fun x => B.testBit x) (by omega)
        exact ⟨fun t u _ _ _ hl => fA u hl.1, fun t p ht _ hl => fB p (ok_pn hS hl.1 hl.2.2)⟩
    refine ⟨A, B, ?_, iA, iB, hcl, hmin⟩
    rw [qX2_hasOpenRoad_16 _ hw, rc_n hR, h2n, if_pos (nI_le (by omega) (by omega)), nI_or, sB_isIn _ (bs_or_lt hA hB) (by omega), bq_I]
    by_cases hyy : (A ||| B).testBit y = true
    · rw [if_pos hyy, if_pos (Or.inr rfl), if_pos ((bs_or_iff _ _ _).1 hyy)]
    · rw [if_neg hyy, if_pos (Or.inl rfl), if_neg (fun h => hyy ((bs_or_iff _ _ _).2 h))]
  | succ j ih =>
    obtain ⟨A1, B1, a1, b1, e, sA, sB, c1, c2, hm⟩ := sW_road_in d hS hR x1 (nI y) (nI k) A B 0 (by omega) none none A B hA hB (fun _ h => h) (fun _ h => h) (fun z u hz => by omega) (fun z p hz => by omega) (fun QA QB q1 q2 _ => ⟨q1, q2⟩)
    rw [nI_1] at e
    rw [qX2_hasOpenRoad_16 _ hw, rc_n hR, h2n, if_neg (nI_ge (by omega) (by omega)), show (0 : Int32) = nI 0 from rfl, e]
    refine ih (k + 1) (by omega) (some (.inl (nI (gN S)))) A1 B1 a1 b1 (fun z hz => sA z (iA z hz)) (fun z hz => sB z (iB z hz)) (fun QA QB q1 q2 q3 => hm QA QB (hmin QA QB q1 q2 q3).1 (hmin QA QB q1 q2 q3).2 q3) ?_ (by omega)
    by_cases hcl : g_cl2 S (fun z => A.testBit z = true) (fun z => B.testBit z = true)
    · left
      have hback := hm _ _ (fun _ h => h) (fun _ h => h) hcl
      refine ⟨fun t u ht hf hab hl => sA u (hcl.1 t u ht hf (hab.elim (fun h => Or.inl (hback.1 t h)) (fun h => Or.inr (hback.2 t h))) hl), fun t p ht hab hl => sB p (hcl.2 t p ht (hab.elim (fun h => Or.inl ⟨h.1, hback.2 t h.2⟩) (fun h => Or.inr ⟨h.1, hback.1 t h.2⟩)) hl)⟩
    · right
      rcases hprog with h | h
      · exact absurd h hcl
      · have hmA := (filt_lt (p := fun x => A.testBit x) (q := fun x => A1.testBit x) (List.range (gN S)) (fun x _ hx => sA x hx)).1
        have hmB := (filt_lt (p := fun x => B.testBit x) (q := fun x => B1.testBit x) (List.range (gN S)) (fun x _ hx => sB x hx)).1
        have hex : (∃ u, u < gN S ∧ A1.testBit u = true ∧ A.testBit u = false) ∨ (∃ u, u < gN S ∧ B1.testBit u = true ∧ B.testBit u = false) := by
          refine Classical.byContradiction (fun hno => hcl ⟨fun t u ht hf hab hl => ?_, fun t p ht hab hl => ?_⟩)
          · cases hq : A.testBit u with
            | true => exact hq
            | false => exact absurd (Or.inl ⟨u, hl.1, c1 t u ht hf hab hl, hq⟩) hno
          · cases hq : B.testBit p with
            | true => exact hq
            | false => exact absurd (Or.inr ⟨p, ok_pn hS hl.1 hl.2.2, c2 t p ht hab hl, hq⟩) hno
        unfold g_cnt at h ⊢
        rcases hex with ⟨u, u1, u2, u3⟩ | ⟨u, u1, u2, u3⟩
        · have := cnt_lt (p := fun x => A.testBit x) (q := fun x => A1.testBit x) (fun x _ hx => sA x hx) u1 u2 u3
          unfold g_cnt at this
          omega
        · have := cnt_lt (p := fun x => B.testBit x) (q := fun x => B1.testBit x) (fun x _ hx => sB x hx) u1 u2 u3
          unfold g_cnt at this
          omega
/-- Web.hasOpenRoad -/
theorem sW_road (d : Nat) {S : bwS} (hS : bwOK S) {μ : bwM} (hR : bwC 2 S μ) {x y : Nat} (hx : x < gN S) (hy : y < gN S) (hxy : x ≠ y) : (g_road S x y → bw_call (d + 5) 36 [.inr (.inr 2), .inl (nI x), .inl (nI y)] μ = some (some (.inl 1), μ)) ∧ (¬ g_road S x y → bw_call (d + 5) 36 [.inr (.inr 2), .inl (nI x), .inl (nI y)] μ = some (some (.inl 0), μ)) := by
  obtain ⟨A, a1, a2, a3⟩ := sW_csn d hS hR hx
  obtain ⟨B, b1, b2, b3⟩ := sW_psn (d + 1) hS hR hx
  obtain ⟨A', B', e, iA, iB, hcl, hmin⟩ := sW_road_go d hS hR (nI x) hy (fun z => g_ld S x z) (fun z => g_ld S z x) 0 (by omega) none A B a1 b1 (fun z hz => (a3 z).2 hz) (fun z hz => (b3 z).2 hz) (fun QA QB q1 q2 _ => ⟨fun z hz => q1 z ((a3 z).1 hz), fun z hz => q2 z ((b3 z).1 hz)⟩) (Or.inr (Nat.zero_le _))
  have hiff := road_iff hS (x := x) (y := y) (fun h => hxy h.symm) (A := fun z => A'.testBit z = true) (B := fun z => B'.testBit z = true) ⟨iA, iB, hcl.1, hcl.2⟩ (fun A2 B2 hc => hmin A2 B2 hc.1 hc.2.1 ⟨hc.2.2.1, hc.2.2.2⟩)
  have hcall : bw_call (d + 5) 36 [.inr (.inr 2), .inl (nI x), .inl (nI y)] μ = some (some (.inl (if A'.testBit y = true ∨ B'.testBit y = true then 1 else 0)), μ) := by
    rw [qX2_hasOpenRoad _ (Or.inl rfl), a2, bq_I, b2, bq_I, show (0 : Int32) = nI 0 from rfl]
    exact e
  rw [hcall]
  exact ⟨fun h => by rw [if_pos (hiff.2 h)], fun h => by rw [if_neg (fun hh => h (hiff.1 hh))]⟩
