/-! PURE: Euclid in at most a hundred steps; tell in both. -/
def bp_fib : Nat → Nat × Nat
  | 0 => (1, 1)
  | k + 1 => ((bp_fib k).2, (bp_fib k).1 + (bp_fib k).2)
/-- after k steps the lesser number is not yet 0 -/
def bp_N : Nat → Nat → Nat → Prop
  | 0, _, b => b ≠ 0
  | k + 1, a, b => b ≠ 0 ∧ bp_N k b (a % b)
theorem bp_N_fib (k a b : Nat) (hab : b < a) (h : bp_N k a b) : (bp_fib k).1 ≤ b ∧ (bp_fib k).2 ≤ a := by
  induction k generalizing a b with
  | zero =>
    have : b ≠ 0 := h
    exact ⟨by show 1 ≤ b; omega, by show 1 ≤ a; omega⟩
  | succ k ih =>
    have hb : b ≠ 0 := h.1
    have h2 := ih b (a % b) (Nat.mod_lt _ (by omega)) h.2
    have h3 : b + a % b ≤ a := by
      have h4 := Nat.div_add_mod a b
      have h5 : 1 ≤ a / b := (Nat.one_le_div_iff (by omega)).2 (by omega)
      have h6 : b * 1 ≤ b * (a / b) := Nat.mul_le_mul_left b h5
      omega
    refine ⟨h2.2, ?_⟩
    show (bp_fib k).1 + (bp_fib k).2 ≤ a
    omega
theorem bp_N_93 (a b : Nat) (hb : b < 2 ^ 63) : ¬ bp_N 93 a b := by
  intro h
  by_cases hab : b < a
  · have h2 := bp_N_fib 93 a b hab h
    have h3 : 2 ^ 63 ≤ (bp_fib 93).1 := by decide +kernel
    omega
  · have h1 := h.1
    have h2 := bp_N_fib 92 b (a % b) (Nat.mod_lt _ (by omega)) h.2
    have h3 : 2 ^ 63 ≤ (bp_fib 92).2 := by decide +kernel
    omega
theorem bp_N_mono (k a b : Nat) (h : bp_N (k + 1) a b) : bp_N k a b := by
  induction k generalizing a b with
  | zero => exact h.1
  | succ k ih => exact ⟨h.1, ih b (a % b) h.2⟩
theorem gcd_step {a b : Nat} : Nat.gcd b (a % b) = Nat.gcd a b := by
  rw [Nat.gcd_comm b (a % b), ← Nat.gcd_rec, Nat.gcd_comm]
theorem sB_gcd_go (d : Nat) (y0 y2 : Int64) (k s : Nat) (hs : s + k = 100) (a b : Nat) (ha : a < 2 ^ 63) (hb : b < 2 ^ 63) (hN : ¬ bp_N k a b) (o9 : Option bwV) (μ : bwM) : eX3_commonDivisor d 9 [some (.inr (.inl y0)), none, some (.inr (.inl y2)), none, some (.inr (.inl (lN a))), none, some (.inr (.inl (lN b))), none, some (.inl (nI s)), o9, none] [] μ = some (some (.inr (.inl (lN (Nat.gcd a b)))), μ) := by
  induction k generalizing s a b o9 with
  | zero =>
    have hb0 : b = 0 := Classical.byContradiction (fun h => hN h)
    have : s = 100 := by omega
    subst this
    rw [qX3_commonDivisor_9, if_pos (by decide), hb0, Nat.gcd_zero_right]
  | succ k ih =>
    rw [qX3_commonDivisor_9, if_neg (show ¬ (100 : Int32) ≤ nI s from nI_ge (b := 100) (by omega) (by omega)), show Int64.ofNat 0 = lN 0 from rfl]
    by_cases hb0 : b = 0
    · rw [if_pos ((lg_cmp_eq _ _).2 (by rw [hb0])), hb0, Nat.gcd_zero_right]
    · have hne : ¬ lN b = lN 0 := fun h => hb0 ((pk_lEQ hb (by omega)).1 h)
      rw [if_neg (fun h => hne ((lg_cmp_eq _ _).1 h)), if_neg (show ¬ lN b = 0 from hne), pk_lRem ha (by omega) hb, qX3_commonDivisor_34, nI_1]
      have hlt := Nat.mod_lt a (show b > 0 by omega)
      rw [ih (s + 1) (by omega) b (a % b) hb (by omega) (fun h => hN ⟨hb0, h⟩), gcd_step]
theorem sB_gcd (d : Nat) {a b : Nat} (ha : a < 2 ^ 63) (hb : b < 2 ^ 63) (μ : bwM) : bw_call (d + 1) 77 [.inr (.inl (lN a)), .inr (.inl (lN b))] μ = some (some (.inr (.inl (lN (Nat.gcd a b)))), μ) := by
  rw [qX3_commonDivisor]
  refine sB_gcd_go d (lN a) (lN b) 100 0 (by omega) a b ha hb (fun h => bp_N_93 a b hb ?_) none μ
  exact bp_N_mono _ _ _ (bp_N_mono _ _ _ (bp_N_mono _ _ _ (bp_N_mono _ _ _ (bp_N_mono _ _ _ (bp_N_mono _ _ _ (bp_N_mono _ _ _ h))))))
theorem sM_gcd_go (d : Nat) (y0 y2 : Int64) (a b : Nat) (ha : a < 2 ^ 63) (hb : b < 2 ^ 63) (o8 : Option bwV) (μ : bwM) : eX4_common d 17 [some (.inr (.inl y0)), none, some (.inr (.inl y2)), none, some (.inr (.inl (lN a))), none, some (.inr (.inl (lN b))), none, o8, none] [] μ = some (some (.inr (.inl (lN (Nat.gcd a b)))), μ) := by
  induction hk : b using Nat.strongRecOn generalizing a b o8 with
  | ind k ih =>
    subst hk
    rw [qX4_common_17, show Int64.ofNat 0 = lN 0 from rfl]
    by_cases hb0 : b = 0
    · rw [if_pos ((lg_cmp_eq _ _).2 (by rw [hb0])), hb0, Nat.gcd_zero_right]
    · have hne : ¬ lN b = lN 0 := fun h => hb0 ((pk_lEQ hb (by omega)).1 h)
      have hlt := Nat.mod_lt a (show b > 0 by omega)
      rw [if_neg (fun h => hne ((lg_cmp_eq _ _).1 h)), if_neg (show ¬ lN b = 0 from hne), pk_lRem ha (by omega) hb, qX4_common_39, ih (a % b) hlt b (a % b) hb (by omega) _ rfl, gcd_step]
theorem lI_lt0 {A : Int} (h1 : -2 ^ 63 ≤ A) (h2 : A < 2 ^ 63) : lI A < lI 0 ↔ A < 0 := by
  unfold lI
  rw [Int64.lt_iff_toInt_lt, Int64.toInt_ofInt_of_le h1 h2, Int64.toInt_ofInt_of_le (by decide) (by decide)]
theorem lI_neg (A : Int) : -lI A = lI (-A) := (Int64.ofInt_neg A).symm
theorem lI_abs (A : Int) : (if A < 0 then lI (-A) else lI A) = lN A.natAbs := by
  rw [lI_N]
  by_cases h : A < 0
  · rw [if_pos h]; congr 1; omega
  · rw [if_neg h]; congr 1; omega
theorem sM_gcd (d : Nat) {A : Int} {b : Nat} (h1 : -2 ^ 63 < A) (h2 : A < 2 ^ 63) (hb : b < 2 ^ 63) (μ : bwM) : bw_call (d + 1) 112 [.inr (.inl (lI A)), .inr (.inl (lN b))] μ = some (some (.inr (.inl (lN (Nat.gcd A.natAbs b)))), μ) := by
  have hlt := lI_lt0 (A := A) (by omega) h2
  have habs := lI_abs A
  rw [qX4_common, show Int64.ofNat 0 = lI 0 from rfl]
  by_cases h : A < 0
  · rw [if_neg (fun hh => by
      have := (lg_cmp_ge _ _).1 hh
      rw [Int64.le_iff_toInt_le] at this
      have h3 := hlt.2 h
      rw [Int64.lt_iff_toInt_lt] at h3
      omega), lI_neg, qX4_common_12]
    rw [if_pos h] at habs
    rw [habs]
    exact sM_gcd_go d _ _ _ _ (by omega) hb none μ
  · rw [if_pos ((lg_cmp_ge _ _).2 (by
      rw [Int64.le_iff_toInt_le]
      have h3 : ¬ lI A < lI 0 := fun hh => h (hlt.1 hh)
      rw [Int64.lt_iff_toInt_lt] at h3
      omega)), qX4_common_12]
    rw [if_neg h] at habs
    have hq := sM_gcd_go d (lI A) (lN b) A.natAbs b (by omega) hb none μ
    rw [← habs] at hq
    exact hq
/-- tell in the class -/
theorem sB_tell (d : Nat) {A : Int} {b : Nat} (h1 : -2 ^ 63 < A) (h2 : A < 2 ^ 63) (hb0 : 0 < b) (hb : b < 2 ^ 63) (μ : bwM) : bw_call (d + 2) 76 [.inr (.inr 0), .inr (.inl (lI A)), .inr (.inl (lN b))] μ = some (none, bw_sl (bw_sl μ 0 5 (lI A / lN (Nat.gcd A.natAbs b))) 0 6 (lN b / lN (Nat.gcd A.natAbs b))) := by
  have hlt := lI_lt0 (A := A) (by omega) h2
  have hg : 0 < Nat.gcd A.natAbs b := Nat.gcd_pos_of_pos_right _ hb0
  have hgb : Nat.gcd A.natAbs b ≤ b := Nat.gcd_le_right _ hb0
  have habs : (if 0 < lI A then lI A else -lI A) = lN A.natAbs := by
    rw [← lI_abs]
    have h0 : (0 : Int64) < lI A ↔ 0 < A := by
      show lI 0 < lI A ↔ _
      unfold lI
      rw [Int64.lt_iff_toInt_lt, Int64.toInt_ofInt_of_le (by omega) h2, Int64.toInt_ofInt_of_le (by decide) (by decide)]
    by_cases h : 0 < A
    · rw [if_pos (h0.2 h), if_neg (by omega)]
    · rw [if_neg (fun hh => h (h0.1 hh)), lI_neg]
      by_cases h' : A < 0
      · rw [if_pos h']
      · rw [if_neg h']
        have : A = 0 := by omega
        rw [this]; rfl
  have hne : ¬ lN (Nat.gcd A.natAbs b) = 0 := fun h => by
    have := (pk_lEQ (by omega) (by omega)).1 (show lN (Nat.gcd A.natAbs b) = lN 0 from h)
    omega
  rw [qX3_tell, show Int64.ofNat 0 = lN 0 from rfl, if_pos ((lg_cmp_gt _ _).2 ((pk_lLT (by omega) hb).2 hb0)), habs, sB_gcd d (by omega) hb, bq_L, if_neg (fun h => by have := (pk_lLE (by omega) (by omega)).1 ((lg_cmp_le _ _).1 h); omega), qX3_tell_24, if_neg hne, if_neg hne]
/-- tell in the reference -/
theorem sM_tell (d : Nat) {A : Int} {b : Nat} (h1 : -2 ^ 63 < A) (h2 : A < 2 ^ 63) (hb0 : 0 < b) (hb : b < 2 ^ 63) (μ : bwM) : bw_call (d + 2) 113 [.inr (.inr 30), .inr (.inl (lI A)), .inr (.inl (lN b))] μ = some (some (.inl 1), bw_sl (bw_sl μ 30 15 (lI A / lN (Nat.gcd A.natAbs b))) 30 16 (lN b / lN (Nat.gcd A.natAbs b))) := by
  have hg : 0 < Nat.gcd A.natAbs b := Nat.gcd_pos_of_pos_right _ hb0
  have hgb : Nat.gcd A.natAbs b ≤ b := Nat.gcd_le_right _ hb0
  have hne : ¬ lN (Nat.gcd A.natAbs b) = 0 := fun h => by
    have := (pk_lEQ (by omega) (by omega)).1 (show lN (Nat.gcd A.natAbs b) = lN 0 from h)
    omega
  rw [qX4_tell, sM_gcd d h1 h2 hb, bq_L, if_neg hne, if_neg hne]
