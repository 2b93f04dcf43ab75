/-! PURE: what the combinators are on results; numbers in range. -/
theorem bq_I {β : Type} (x : Int32) (μ : bwM) (f : β) (k : Int32 → bwM → β) : bw_bI (some (some (.inl x), μ)) f k = k x μ := rfl
theorem bq_L {β : Type} (x : Int64) (μ : bwM) (f : β) (k : Int64 → bwM → β) : bw_bL (some (some (.inr (.inl x)), μ)) f k = k x μ := rfl
theorem bq_V {β : Type} (μ : bwM) (f : β) (k : bwM → β) : bw_bV (some (none, μ)) f k = k μ := rfl
theorem bq_01 : ((0 : Int32) = 0 ∨ (0 : Int32) = 1) := Or.inl rfl
theorem bq_11 : ((1 : Int32) = 0 ∨ (1 : Int32) = 1) := Or.inr rfl
theorem bq_in {k n : Nat} (h : k < n) (hn : n < 2 ^ 31) : bw_in (nI k) n := ⟨nI_pos' (by omega), by rw [nI_clamp (by omega)]; exact h⟩
theorem bq_si1 (μ : bwM) (o j o' j' : Nat) (x : Int32) : (bw_si μ o j x).1 o' j' = if o' = o ∧ j' = j then x else μ.1 o' j' := rfl
theorem bq_si2 (μ : bwM) (o j : Nat) (x : Int32) : (bw_si μ o j x).2 = μ.2 := rfl
theorem bq_sl2 (μ : bwM) (o j o' j' : Nat) (x : Int64) : (bw_sl μ o j x).2 o' j' = if o' = o ∧ j' = j then x else μ.2 o' j' := rfl
theorem bq_sl1 (μ : bwM) (o j : Nat) (x : Int64) : (bw_sl μ o j x).1 = μ.1 := rfl
/-- Web.hasThing -/
theorem sW_hasThing (d : Nat) {w : Nat} (hw : w = 2 ∨ w = 12) (x : Int32) (μ : bwM) : bw_call (d + 1) 17 [.inr (.inr w), .inl x] μ = some (some (.inl (if 0 ≤ x ∧ x < μ.1 w 0 then 1 else 0)), μ) := by
  rw [qX2_hasThing d hw, if_pos bq_01, if_pos bq_11]
  by_cases h1 : x < 0
  · rw [if_pos h1, if_neg]
    rw [Int32.lt_iff_toInt_lt] at h1
    rw [Int32.le_iff_toInt_le]
    omega
  · rw [if_neg h1]
    by_cases h2 : μ.1 w 0 ≤ x
    · rw [if_pos h2, if_neg]
      rw [Int32.le_iff_toInt_le] at h2
      rw [Int32.lt_iff_toInt_lt]
      omega
    · rw [if_neg h2, if_pos]
      rw [Int32.lt_iff_toInt_lt] at h1
      rw [Int32.le_iff_toInt_le] at h2
      rw [Int32.le_iff_toInt_le, Int32.lt_iff_toInt_lt]
      omega
