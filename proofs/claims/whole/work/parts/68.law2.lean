/-! PURE: the law's loop. -/
theorem bq_p2 (i : Nat) : nI i + (2 : Int32) = nI (i + 2) := nI_add i 2
theorem bq_p3 (i : Nat) : nI i + (3 : Int32) = nI (i + 3) := nI_add i 3
theorem bq_p4 (i : Nat) : nI i + (4 : Int32) = nI (i + 4) := nI_add i 4
theorem bq_p5 (i : Nat) : nI i + (5 : Int32) = nI (i + 5) := nI_add i 5
theorem bp_ite {α : Type} {c : Prop} [Decidable c] (P : α → Prop) {a b : α} (h1 : c → P a) (h2 : ¬ c → P b) : P (if c then a else b) := by
  by_cases h : c
  · rw [if_pos h]; exact h1 h
  · rw [if_neg h]; exact h2 h
/-- a call of the script is answered alike -/
def bw_lc (d L : Nat) (sx : Nat → Int32) (i pc : Nat) (μ : bwM) : Prop := ∃ π, bwInv π ∧ eL_law (d + 40) L sx pc [some (.inr (.inr 60)), some (.inr (.inr 0)), some (.inr (.inr 30)), some (.inl (nI i))] [] μ = eL_law (d + 40) L sx 973 [some (.inr (.inr 60)), some (.inr (.inr 0)), some (.inr (.inr 30)), some (.inl (nI i))] [] π
def bw_lcP (d L : Nat) (sx : Nat → Int32) (i : Nat) (z : Option bwR) : Prop := ∃ π, bwInv π ∧ z = eL_law (d + 40) L sx 973 [some (.inr (.inr 60)), some (.inr (.inr 0)), some (.inr (.inr 30)), some (.inl (nI i))] [] π
theorem cL_164 (d L : Nat) (sx : Nat → Int32) (i : Nat) (hi : i + 5 ≤ L) (hL : L ≤ 2560) {μ : bwM} (h : bwInv μ) : bw_lc d L sx i 164 μ := by
  obtain ⟨r, ν, π, j1, j2, j3⟩ := J_thing d h (sx (i + 1)) (sx (i + 2))
  refine ⟨π, j3, ?_⟩
  rw [qL_law_164]
  simp only [nI_1, bq_p2, bq_it (show i + 1 < L by omega) (by omega), bq_it (show i + 2 < L by omega) (by omega), nI_clamp (show i + 1 < 2 ^ 31 by omega), nI_clamp (show i + 2 < 2 ^ 31 by omega)]
  rw [j1, bq_I, j2, bq_I, if_pos rfl]
theorem cL_197 (d L : Nat) (sx : Nat → Int32) (i : Nat) (hi : i + 5 ≤ L) (hL : L ≤ 2560) {μ : bwM} (h : bwInv μ) : bw_lc d L sx i 197 μ := by
  obtain ⟨r, ν, π, j1, j2, j3⟩ := J_arrow d h (sx (i + 1)) (sx (i + 2))
  refine ⟨π, j3, ?_⟩
  rw [qL_law_197]
  simp only [nI_1, bq_p2, bq_it (show i + 1 < L by omega) (by omega), bq_it (show i + 2 < L by omega) (by omega), nI_clamp (show i + 1 < 2 ^ 31 by omega), nI_clamp (show i + 2 < 2 ^ 31 by omega)]
  rw [j1, bq_I, j2, bq_I, if_pos rfl]
theorem cL_230 (d L : Nat) (sx : Nat → Int32) (i : Nat) (hi : i + 5 ≤ L) (hL : L ≤ 2560) {μ : bwM} (h : bwInv μ) : bw_lc d L sx i 230 μ := by
  obtain ⟨r, ν, π, j1, j2, j3⟩ := J_cut d h (sx (i + 1)) (sx (i + 2))
  refine ⟨π, j3, ?_⟩
  rw [qL_law_230]
  simp only [nI_1, bq_p2, bq_it (show i + 1 < L by omega) (by omega), bq_it (show i + 2 < L by omega) (by omega), nI_clamp (show i + 1 < 2 ^ 31 by omega), nI_clamp (show i + 2 < 2 ^ 31 by omega)]
  rw [j1, bq_I, j2, bq_I, if_pos rfl]
theorem cL_263 (d L : Nat) (sx : Nat → Int32) (i : Nat) (hi : i + 5 ≤ L) (hL : L ≤ 2560) {μ : bwM} (h : bwInv μ) : bw_lc d L sx i 263 μ := by
  obtain ⟨r, ν, π, j1, j2, j3⟩ := J_weight d h (sx (i + 1)) (sx (i + 2)) (sx (i + 3)) (sx (i + 4))
  refine ⟨π, j3, ?_⟩
  rw [qL_law_263]
  simp only [nI_1, bq_p2, bq_p3, bq_p4, bq_it (show i + 1 < L by omega) (by omega), bq_it (show i + 2 < L by omega) (by omega), bq_it (show i + 3 < L by omega) (by omega), bq_it (show i + 4 < L by omega) (by omega), nI_clamp (show i + 1 < 2 ^ 31 by omega), nI_clamp (show i + 2 < 2 ^ 31 by omega), nI_clamp (show i + 3 < 2 ^ 31 by omega), nI_clamp (show i + 4 < 2 ^ 31 by omega)]
  rw [j1, bq_I, j2, bq_I, if_pos rfl]
theorem cL_316 (d L : Nat) (sx : Nat → Int32) (i : Nat) (hi : i + 5 ≤ L) (hL : L ≤ 2560) {μ : bwM} (h : bwInv μ) : bw_lc d L sx i 316 μ := by
  obtain ⟨r, ν, π, j1, j2, j3⟩ := J_told d h (sx (i + 1)) (sx (i + 2)) (sx (i + 3))
  refine ⟨π, j3, ?_⟩
  rw [qL_law_316]
  simp only [nI_1, bq_p2, bq_p3, bq_it (show i + 1 < L by omega) (by omega), bq_it (show i + 2 < L by omega) (by omega), bq_it (show i + 3 < L by omega) (by omega), nI_clamp (show i + 1 < 2 ^ 31 by omega), nI_clamp (show i + 2 < 2 ^ 31 by omega), nI_clamp (show i + 3 < 2 ^ 31 by omega)]
  rw [j1, bq_I, j2, bq_I, if_pos rfl]
theorem cL_359 (d L : Nat) (sx : Nat → Int32) (i : Nat) (hi : i + 5 ≤ L) (hL : L ≤ 2560) {μ : bwM} (h : bwInv μ) : bw_lc d L sx i 359 μ := by
  obtain ⟨r, ν, π, j1, j2, j3⟩ := J_about d h (sx (i + 1)) (sx (i + 2))
  refine ⟨π, j3, ?_⟩
  rw [qL_law_359]
  simp only [nI_1, bq_p2, bq_it (show i + 1 < L by omega) (by omega), bq_it (show i + 2 < L by omega) (by omega), nI_clamp (show i + 1 < 2 ^ 31 by omega), nI_clamp (show i + 2 < 2 ^ 31 by omega)]
  rw [j1, bq_I, j2, bq_I, if_pos rfl]
theorem cL_392 (d L : Nat) (sx : Nat → Int32) (i : Nat) (hi : i + 5 ≤ L) (hL : L ≤ 2560) {μ : bwM} (h : bwInv μ) : bw_lc d L sx i 392 μ := by
  obtain ⟨r, ν, π, j1, j2, j3⟩ := J_parent d h (sx (i + 1)) (sx (i + 2))
  refine ⟨π, j3, ?_⟩
  rw [qL_law_392]
  simp only [nI_1, bq_p2, bq_it (show i + 1 < L by omega) (by omega), bq_it (show i + 2 < L by omega) (by omega), nI_clamp (show i + 1 < 2 ^ 31 by omega), nI_clamp (show i + 2 < 2 ^ 31 by omega)]
  rw [j1, bq_I, j2, bq_I, if_pos rfl]
theorem cL_425 (d L : Nat) (sx : Nat → Int32) (i : Nat) (_ : i + 5 ≤ L) (_ : L ≤ 2560) {μ : bwM} (h : bwInv μ) : bw_lc d L sx i 425 μ := by
  obtain ⟨r, ν, π, j1, j2, j3⟩ := J_sound d h 
  refine ⟨π, j3, ?_⟩
  rw [qL_law_425]
  rw [j1, bq_I, j2, bq_I, if_pos rfl]
theorem cL_438 (d L : Nat) (sx : Nat → Int32) (i : Nat) (hi : i + 5 ≤ L) (hL : L ≤ 2560) {μ : bwM} (h : bwInv μ) : bw_lc d L sx i 438 μ := by
  obtain ⟨r, ν, π, j1, j2, j3⟩ := J_see d h (sx (i + 1)) (sx (i + 2))
  refine ⟨π, j3, ?_⟩
  rw [qL_law_438]
  simp only [nI_1, bq_p2, bq_it (show i + 1 < L by omega) (by omega), bq_it (show i + 2 < L by omega) (by omega), nI_clamp (show i + 1 < 2 ^ 31 by omega), nI_clamp (show i + 2 < 2 ^ 31 by omega)]
  rw [j1, bq_I, j2, bq_I, if_pos rfl]
theorem cL_471 (d L : Nat) (sx : Nat → Int32) (i : Nat) (hi : i + 5 ≤ L) (hL : L ≤ 2560) {μ : bwM} (h : bwInv μ) : bw_lc d L sx i 471 μ := by
  obtain ⟨r, ν, π, j1, j2, j3⟩ := J_act d h (sx (i + 1)) (sx (i + 2))
  refine ⟨π, j3, ?_⟩
  rw [qL_law_471]
  simp only [nI_1, bq_p2, bq_it (show i + 1 < L by omega) (by omega), bq_it (show i + 2 < L by omega) (by omega), nI_clamp (show i + 1 < 2 ^ 31 by omega), nI_clamp (show i + 2 < 2 ^ 31 by omega)]
  rw [j1, bq_I, j2, bq_I, if_pos rfl]
theorem cL_504 (d L : Nat) (sx : Nat → Int32) (i : Nat) (hi : i + 5 ≤ L) (hL : L ≤ 2560) {μ : bwM} (h : bwInv μ) : bw_lc d L sx i 504 μ := by
  obtain ⟨r, ν, π, j1, j2, j3⟩ := J_force d h (sx (i + 1)) (sx (i + 2)) (sx (i + 3))
  refine ⟨π, j3, ?_⟩
  rw [qL_law_504]
  simp only [nI_1, bq_p2, bq_p3, bq_it (show i + 1 < L by omega) (by omega), bq_it (show i + 2 < L by omega) (by omega), bq_it (show i + 3 < L by omega) (by omega), nI_clamp (show i + 1 < 2 ^ 31 by omega), nI_clamp (show i + 2 < 2 ^ 31 by omega), nI_clamp (show i + 3 < 2 ^ 31 by omega)]
  rw [j1, bq_I, j2, bq_I, if_pos rfl]
theorem cL_547 (d L : Nat) (sx : Nat → Int32) (i : Nat) (_ : i + 5 ≤ L) (_ : L ≤ 2560) {μ : bwM} (h : bwInv μ) : bw_lc d L sx i 547 μ := by
  obtain ⟨r, ν, π, j1, j2, j3⟩ := J_chance d h 
  refine ⟨π, j3, ?_⟩
  rw [qL_law_547]
  rw [j1, bq_I, j2, bq_I, if_pos rfl]
theorem cL_560 (d L : Nat) (sx : Nat → Int32) (i : Nat) (hi : i + 5 ≤ L) (hL : L ≤ 2560) {μ : bwM} (h : bwInv μ) : bw_lc d L sx i 560 μ := by
  obtain ⟨r, ν, π, j1, j2, j3⟩ := J_ask d h (sx (i + 1)) (sx (i + 2))
  refine ⟨π, j3, ?_⟩
  rw [qL_law_560]
  simp only [nI_1, bq_p2, bq_it (show i + 1 < L by omega) (by omega), bq_it (show i + 2 < L by omega) (by omega), nI_clamp (show i + 1 < 2 ^ 31 by omega), nI_clamp (show i + 2 < 2 ^ 31 by omega)]
  rw [j1, bq_I, j2, bq_I, if_pos rfl]
theorem cL_593 (d L : Nat) (sx : Nat → Int32) (i : Nat) (hi : i + 5 ≤ L) (hL : L ≤ 2560) {μ : bwM} (h : bwInv μ) : bw_lc d L sx i 593 μ := by
  obtain ⟨r, ν, π, j1, j2, j3⟩ := J_both d h (sx (i + 1)) (sx (i + 2)) (sx (i + 3)) (sx (i + 4))
  refine ⟨π, j3, ?_⟩
  rw [qL_law_593]
  simp only [nI_1, bq_p2, bq_p3, bq_p4, bq_it (show i + 1 < L by omega) (by omega), bq_it (show i + 2 < L by omega) (by omega), bq_it (show i + 3 < L by omega) (by omega), bq_it (show i + 4 < L by omega) (by omega), nI_clamp (show i + 1 < 2 ^ 31 by omega), nI_clamp (show i + 2 < 2 ^ 31 by omega), nI_clamp (show i + 3 < 2 ^ 31 by omega), nI_clamp (show i + 4 < 2 ^ 31 by omega)]
  rw [j1, bq_I, j2, bq_I, if_pos rfl]
theorem cL_646 (d L : Nat) (sx : Nat → Int32) (i : Nat) (_ : i + 5 ≤ L) (_ : L ≤ 2560) {μ : bwM} (h : bwInv μ) : bw_lc d L sx i 646 μ := by
  have h' := h
  obtain ⟨st, ac, k, f, m, h⟩ := h
  refine ⟨μ, h', ?_⟩
  rw [qL_law_646, qX3_up, bq_L, qX4_up, bq_L, if_pos ((lg_cmp_eq _ _).2 h.2.2.2.2.1.1)]
theorem cL_660 (d L : Nat) (sx : Nat → Int32) (i : Nat) (_ : i + 5 ≤ L) (_ : L ≤ 2560) {μ : bwM} (h : bwInv μ) : bw_lc d L sx i 660 μ := by
  have h' := h
  obtain ⟨st, ac, k, f, m, h⟩ := h
  refine ⟨μ, h', ?_⟩
  rw [qL_law_660, qX3_down, bq_L, qX4_down, bq_L, if_pos ((lg_cmp_eq _ _).2 h.2.2.2.2.1.2)]
theorem cL_674 (d L : Nat) (sx : Nat → Int32) (i : Nat) (hi : i + 5 ≤ L) (hL : L ≤ 2560) {μ : bwM} (h : bwInv μ) : bw_lc d L sx i 674 μ := by
  obtain ⟨r, ν, π, j1, j2, j3⟩ := J_most d h (sx (i + 1))
  refine ⟨π, j3, ?_⟩
  rw [qL_law_674]
  simp only [nI_1, bq_it (show i + 1 < L by omega) (by omega), nI_clamp (show i + 1 < 2 ^ 31 by omega)]
  rw [j1, bq_I, j2, bq_I, if_pos rfl]
theorem cL_697 (d L : Nat) (sx : Nat → Int32) (i : Nat) (hi : i + 5 ≤ L) (hL : L ≤ 2560) {μ : bwM} (h : bwInv μ) : bw_lc d L sx i 697 μ := by
  obtain ⟨r, ν, π, j1, j2, j3⟩ := J_likeliest d h (sx (i + 1))
  refine ⟨π, j3, ?_⟩
  rw [qL_law_697]
  simp only [nI_1, bq_it (show i + 1 < L by omega) (by omega), nI_clamp (show i + 1 < 2 ^ 31 by omega)]
  rw [j1, bq_I, j2, bq_I, if_pos rfl]
theorem cL_720 (d L : Nat) (sx : Nat → Int32) (i : Nat) (hi : i + 5 ≤ L) (hL : L ≤ 2560) {μ : bwM} (h : bwInv μ) : bw_lc d L sx i 720 μ := by
  obtain ⟨r, ν, π, j1, j2, j3⟩ := J_at d h (sx (i + 1))
  refine ⟨π, j3, ?_⟩
  rw [qL_law_720]
  simp only [nI_1, bq_it (show i + 1 < L by omega) (by omega), nI_clamp (show i + 1 < 2 ^ 31 by omega)]
  rw [j1, bq_I, j2, bq_I, if_pos rfl]
theorem cL_743 (d L : Nat) (sx : Nat → Int32) (i : Nat) (_ : i + 5 ≤ L) (_ : L ≤ 2560) {μ : bwM} (h : bwInv μ) : bw_lc d L sx i 743 μ := by
  obtain ⟨r, ν, π, j1, j2, j3⟩ := J_wholes d h 
  refine ⟨π, j3, ?_⟩
  rw [qL_law_743]
  rw [j1, bq_I, j2, bq_I, if_pos rfl]
theorem cL_756 (d L : Nat) (sx : Nat → Int32) (i : Nat) (hi : i + 5 ≤ L) (hL : L ≤ 2560) {μ : bwM} (h : bwInv μ) : bw_lc d L sx i 756 μ := by
  obtain ⟨r, ν, π, j1, j2, j3⟩ := J_apart d h (sx (i + 1)) (sx (i + 2))
  refine ⟨π, j3, ?_⟩
  rw [qL_law_756]
  simp only [nI_1, bq_p2, bq_it (show i + 1 < L by omega) (by omega), bq_it (show i + 2 < L by omega) (by omega), nI_clamp (show i + 1 < 2 ^ 31 by omega), nI_clamp (show i + 2 < 2 ^ 31 by omega)]
  rw [j1, bq_I, j2, bq_I, if_pos rfl]
theorem cL_789 (d L : Nat) (sx : Nat → Int32) (i : Nat) (hi : i + 5 ≤ L) (hL : L ≤ 2560) {μ : bwM} (h : bwInv μ) : bw_lc d L sx i 789 μ := by
  obtain ⟨r, ν, π, j1, j2, j3⟩ := J_options d h (sx (i + 1))
  refine ⟨π, j3, ?_⟩
  rw [qL_law_789]
  simp only [nI_1, bq_it (show i + 1 < L by omega) (by omega), nI_clamp (show i + 1 < 2 ^ 31 by omega)]
  rw [j1, bq_I, j2, bq_I, if_pos rfl]
theorem cL_812 (d L : Nat) (sx : Nat → Int32) (i : Nat) (hi : i + 5 ≤ L) (hL : L ≤ 2560) {μ : bwM} (h : bwInv μ) : bw_lc d L sx i 812 μ := by
  obtain ⟨r, ν, π, j1, j2, j3⟩ := J_worth d h (sx (i + 1)) (sx (i + 2)) (sx (i + 3)) (sx (i + 4))
  refine ⟨π, j3, ?_⟩
  rw [qL_law_812]
  simp only [nI_1, bq_p2, bq_p3, bq_p4, bq_it (show i + 1 < L by omega) (by omega), bq_it (show i + 2 < L by omega) (by omega), bq_it (show i + 3 < L by omega) (by omega), bq_it (show i + 4 < L by omega) (by omega), nI_clamp (show i + 1 < 2 ^ 31 by omega), nI_clamp (show i + 2 < 2 ^ 31 by omega), nI_clamp (show i + 3 < 2 ^ 31 by omega), nI_clamp (show i + 4 < 2 ^ 31 by omega)]
  rw [j1, bq_I, j2, bq_I, if_pos rfl]
theorem cL_865 (d L : Nat) (sx : Nat → Int32) (i : Nat) (hi : i + 5 ≤ L) (hL : L ≤ 2560) {μ : bwM} (h : bwInv μ) : bw_lc d L sx i 865 μ := by
  obtain ⟨r, ν, π, j1, j2, j3⟩ := J_expected d h (sx (i + 1))
  refine ⟨π, j3, ?_⟩
  rw [qL_law_865]
  simp only [nI_1, bq_it (show i + 1 < L by omega) (by omega), nI_clamp (show i + 1 < 2 ^ 31 by omega)]
  rw [j1, bq_I, j2, bq_I, if_pos rfl]
theorem cL_888 (d L : Nat) (sx : Nat → Int32) (i : Nat) (_ : i + 5 ≤ L) (_ : L ≤ 2560) {μ : bwM} (h : bwInv μ) : bw_lc d L sx i 888 μ := by
  obtain ⟨r, ν, π, j1, j2, j3⟩ := J_best d h 
  refine ⟨π, j3, ?_⟩
  rw [qL_law_888]
  rw [j1, bq_I, j2, bq_I, if_pos rfl]
theorem cL_901 (d L : Nat) (sx : Nat → Int32) (i : Nat) (hi : i + 5 ≤ L) (hL : L ≤ 2560) {μ : bwM} (h : bwInv μ) : bw_lc d L sx i 901 μ := by
  obtain ⟨r, ν, π, j1, j2, j3⟩ := J_gain d h (sx (i + 1))
  refine ⟨π, j3, ?_⟩
  rw [qL_law_901]
  simp only [nI_1, bq_it (show i + 1 < L by omega) (by omega), nI_clamp (show i + 1 < 2 ^ 31 by omega)]
  rw [j1, bq_I, j2, bq_I, if_pos rfl]
theorem cL_924 (d L : Nat) (sx : Nat → Int32) (i : Nat) (_ : i + 5 ≤ L) (_ : L ≤ 2560) {μ : bwM} (h : bwInv μ) : bw_lc d L sx i 924 μ := by
  obtain ⟨r, ν, π, j1, j2, j3⟩ := J_next d h 
  refine ⟨π, j3, ?_⟩
  rw [qL_law_924]
  rw [j1, bq_I, j2, bq_I, if_pos rfl]
theorem cL_937 (d L : Nat) (sx : Nat → Int32) (i : Nat) (_ : i + 5 ≤ L) (_ : L ≤ 2560) {μ : bwM} (h : bwInv μ) : bw_lc d L sx i 937 μ := by
  obtain ⟨r, ν, π, j1, j2, j3⟩ := J_undo d h 
  refine ⟨π, j3, ?_⟩
  rw [qL_law_937]
  rw [j1, bq_I, j2, bq_I, if_pos rfl]
theorem cL_950 (d L : Nat) (sx : Nat → Int32) (i : Nat) (hi : i + 5 ≤ L) (hL : L ≤ 2560) {μ : bwM} (h : bwInv μ) : bw_lc d L sx i 950 μ := by
  obtain ⟨r, ν, π, j1, j2, j3⟩ := J_count d h (sx (i + 1))
  refine ⟨π, j3, ?_⟩
  rw [qL_law_950]
  simp only [nI_1, bq_it (show i + 1 < L by omega) (by omega), nI_clamp (show i + 1 < 2 ^ 31 by omega)]
  rw [j1, bq_I, j2, bq_I, if_pos rfl]
theorem cL_step (d L : Nat) (sx : Nat → Int32) (i : Nat) (hi : i + 5 ≤ L) (hL : L ≤ 2560) {μ : bwM} (h : bwInv μ) : ∃ π, bwInv π ∧ eL_law (d + 40) L sx 18 [some (.inr (.inr 60)), some (.inr (.inr 0)), some (.inr (.inr 30)), some (.inl (nI i))] [] μ = eL_law (d + 40) L sx 18 [some (.inr (.inr 60)), some (.inr (.inr 0)), some (.inr (.inr 30)), some (.inl (nI (i + 5)))] [] π := by
  have key : ∃ π, bwInv π ∧ eL_law (d + 40) L sx 18 [some (.inr (.inr 60)), some (.inr (.inr 0)), some (.inr (.inr 30)), some (.inl (nI i))] [] μ = eL_law (d + 40) L sx 973 [some (.inr (.inr 60)), some (.inr (.inr 0)), some (.inr (.inr 30)), some (.inl (nI i))] [] π := by
    rw [qL_law_18, if_neg (fun hh => by
      rw [Int32.lt_iff_toInt_lt, nI_toInt (by omega)] at hh
      have h5 := pk_sub_toInt (a := L) (b := 5) (by omega) (by omega)
      have h6 : (Int32.ofNat L - (5 : Int32)).toInt = (L : Int) - 5 := h5
      omega), if_pos ((bq_ii (by omega)).2 (by omega))]
    show bw_lcP d L sx i _
    refine bp_ite (bw_lcP d L sx i) (fun _ => cL_164 d L sx i hi hL h) (fun _ => ?_)
    refine bp_ite (bw_lcP d L sx i) (fun _ => cL_197 d L sx i hi hL h) (fun _ => ?_)
    refine bp_ite (bw_lcP d L sx i) (fun _ => cL_230 d L sx i hi hL h) (fun _ => ?_)
    refine bp_ite (bw_lcP d L sx i) (fun _ => cL_263 d L sx i hi hL h) (fun _ => ?_)
    refine bp_ite (bw_lcP d L sx i) (fun _ => cL_316 d L sx i hi hL h) (fun _ => ?_)
    refine bp_ite (bw_lcP d L sx i) (fun _ => cL_359 d L sx i hi hL h) (fun _ => ?_)
    refine bp_ite (bw_lcP d L sx i) (fun _ => cL_392 d L sx i hi hL h) (fun _ => ?_)
    refine bp_ite (bw_lcP d L sx i) (fun _ => cL_425 d L sx i hi hL h) (fun _ => ?_)
    refine bp_ite (bw_lcP d L sx i) (fun _ => cL_438 d L sx i hi hL h) (fun _ => ?_)
    refine bp_ite (bw_lcP d L sx i) (fun _ => cL_471 d L sx i hi hL h) (fun _ => ?_)
    refine bp_ite (bw_lcP d L sx i) (fun _ => cL_504 d L sx i hi hL h) (fun _ => ?_)
    refine bp_ite (bw_lcP d L sx i) (fun _ => cL_547 d L sx i hi hL h) (fun _ => ?_)
    refine bp_ite (bw_lcP d L sx i) (fun _ => cL_560 d L sx i hi hL h) (fun _ => ?_)
    refine bp_ite (bw_lcP d L sx i) (fun _ => cL_593 d L sx i hi hL h) (fun _ => ?_)
    refine bp_ite (bw_lcP d L sx i) (fun _ => cL_646 d L sx i hi hL h) (fun _ => ?_)
    refine bp_ite (bw_lcP d L sx i) (fun _ => cL_660 d L sx i hi hL h) (fun _ => ?_)
    refine bp_ite (bw_lcP d L sx i) (fun _ => cL_674 d L sx i hi hL h) (fun _ => ?_)
    refine bp_ite (bw_lcP d L sx i) (fun _ => cL_697 d L sx i hi hL h) (fun _ => ?_)
    refine bp_ite (bw_lcP d L sx i) (fun _ => cL_720 d L sx i hi hL h) (fun _ => ?_)
    refine bp_ite (bw_lcP d L sx i) (fun _ => cL_743 d L sx i hi hL h) (fun _ => ?_)
    refine bp_ite (bw_lcP d L sx i) (fun _ => cL_756 d L sx i hi hL h) (fun _ => ?_)
    refine bp_ite (bw_lcP d L sx i) (fun _ => cL_789 d L sx i hi hL h) (fun _ => ?_)
    refine bp_ite (bw_lcP d L sx i) (fun _ => cL_812 d L sx i hi hL h) (fun _ => ?_)
    refine bp_ite (bw_lcP d L sx i) (fun _ => cL_865 d L sx i hi hL h) (fun _ => ?_)
    refine bp_ite (bw_lcP d L sx i) (fun _ => cL_888 d L sx i hi hL h) (fun _ => ?_)
    refine bp_ite (bw_lcP d L sx i) (fun _ => cL_901 d L sx i hi hL h) (fun _ => ?_)
    refine bp_ite (bw_lcP d L sx i) (fun _ => cL_924 d L sx i hi hL h) (fun _ => ?_)
    refine bp_ite (bw_lcP d L sx i) (fun _ => cL_937 d L sx i hi hL h) (fun _ => ?_)
    refine bp_ite (bw_lcP d L sx i) (fun _ => cL_950 d L sx i hi hL h) (fun _ => ?_)
    exact ⟨μ, h, rfl⟩
  obtain ⟨π, h1, h2⟩ := key
  refine ⟨π, h1, h2.trans ?_⟩
  rw [qL_law_973, bq_p5]
theorem cL_loop (d L : Nat) (sx : Nat → Int32) (hL : L ≤ 2560) (n i : Nat) (hn : L - i ≤ n) (hi : i ≤ L) {μ : bwM} (h : bwInv μ) : ∃ μ', eL_law (d + 40) L sx 18 [some (.inr (.inr 60)), some (.inr (.inr 0)), some (.inr (.inr 30)), some (.inl (nI i))] [] μ = some (some (.inl 1), μ') := by
  induction n generalizing i μ with
  | zero =>
    refine ⟨μ, ?_⟩
    rw [qL_law_18, if_pos (by
      rw [Int32.lt_iff_toInt_lt, nI_toInt (by omega)]
      have h5 := pk_sub_toInt (a := L) (b := 5) (by omega) (by omega)
      have h6 : (Int32.ofNat L - (5 : Int32)).toInt = (L : Int) - 5 := h5
      omega), bq_1]
  | succ n ih =>
    by_cases h5 : i + 5 ≤ L
    · obtain ⟨π, e1, e2⟩ := cL_step d L sx i h5 hL h
      obtain ⟨μ', e3⟩ := ih (i + 5) (by omega) h5 e1
      exact ⟨μ', e2.trans e3⟩
    · refine ⟨μ, ?_⟩
      rw [qL_law_18, if_pos (by
        rw [Int32.lt_iff_toInt_lt, nI_toInt (by omega)]
        have h5' := pk_sub_toInt (a := L) (b := 5) (by omega) (by omega)
        have h6 : (Int32.ofNat L - (5 : Int32)).toInt = (L : Int) - 5 := h5'
        omega), bq_1]
/-- the web of a new object -/
def g_zero : bwS := (0, 0, fun _ => 0, fun _ => 0, fun _ => [], fun _ _ _ => 0, fun _ => none, fun _ => none, fun _ _ => 0, fun _ _ _ => 0)
theorem ok_zero : bwOK g_zero := by
  refine ⟨⟨Nat.zero_le _, Nat.zero_le _⟩, fun x hx => absurd hx (Nat.not_lt_zero _), fun x hx => absurd hx (Nat.not_lt_zero _), fun x _ => rfl, fun x r v hx => absurd hx (Nat.not_lt_zero _), fun x hx => absurd hx (Nat.not_lt_zero _), fun x v hx => absurd hx (Nat.not_lt_zero _), fun o x v => ⟨show -500 ≤ (0 : Int32).toInt ∧ (0 : Int32).toInt ≤ 500 by decide, fun _ => rfl⟩, ⟨by decide, by decide⟩, fun _ => 0, fun x p hx => absurd hx (Nat.not_lt_zero _)⟩
theorem zero_a (b : Nat) : bwA b g_zero bw_mu0 := ⟨fun _ hx => absurd hx (Nat.not_lt_zero _), fun _ _ _ hx => absurd hx (Nat.not_lt_zero _), fun _ _ _ hx => absurd hx (Nat.not_lt_zero _), fun _ _ hx => absurd hx (Nat.not_lt_zero _), fun _ _ _ ho => absurd ho (Nat.not_lt_zero _)⟩
theorem zero_c (w : Nat) : bwC w g_zero bw_mu0 := ⟨zero_a w, rfl, rfl, fun _ _ _ => rfl, fun _ _ _ _ _ _ _ => rfl⟩
theorem inv_zero : bwInv bw_mu0 := ⟨fun _ => g_zero, fun _ => (0, 0, 0, 0, 0), 0, 0, 0, ⟨by omega, by omega, rfl, rfl, fun _ _ => ok_zero, fun i hi => by omega, zero_c 12, fun i hi => by omega⟩, zero_c 2, ⟨zero_a 30, rfl, rfl⟩, ⟨by omega, rfl, fun _ _ => ok_zero, fun i hi => by omega⟩, ⟨rfl, rfl⟩, by omega, rfl, rfl, fun x hx => by omega⟩
/-- the law's loop answers 1 for every script -/
theorem law_pure (L : Nat) (sx : Nat → Int32) (hL : L ≤ 2560) : ∃ μ', eL_law 60 L sx 16 [some (.inr (.inr 60)), some (.inr (.inr 0)), some (.inr (.inr 30)), none] [] bw_mu0 = some (some (.inl 1), μ') := by
  obtain ⟨μ', h⟩ := cL_loop 20 L sx hL L 0 (by omega) (by omega) inv_zero
  exact ⟨μ', (qL_law_16 60 L sx bw_mu0).trans h⟩
