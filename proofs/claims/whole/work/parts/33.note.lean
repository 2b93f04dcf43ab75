/-! PURE: the reference's log: note. -/
theorem bp_copy {R : Type} (E : Nat → bwM → R) (a sa b db n : Nat) (hd : a ≠ b ∨ db ≤ sa) (hstep : ∀ i μ, i < n → E i μ = E (i + 1) (bw_si μ b (db + i) (μ.1 a (sa + i)))) (i : Nat) (hi : i ≤ n) (μ : bwM) : ∃ ν : bwM, E i μ = E n ν ∧ ν.2 = μ.2 ∧ (∀ c j, ¬ (c = b ∧ db + i ≤ j ∧ j < db + n) → ν.1 c j = μ.1 c j) ∧ (∀ q, i ≤ q → q < n → ν.1 b (db + q) = μ.1 a (sa + q)) := by
  induction hj : n - i generalizing i μ with
  | zero =>
    have : i = n := by omega
    subst this
    exact ⟨μ, rfl, rfl, fun _ _ _ => rfl, fun q h h' => by omega⟩
  | succ j ih =>
    obtain ⟨ν, e1, e2, e3, e4⟩ := ih (i + 1) (by omega) (bw_si μ b (db + i) (μ.1 a (sa + i))) (by omega)
    refine ⟨ν, (hstep i μ (by omega)).trans e1, e2, fun c j hcj => ?_, fun q hq hq' => ?_⟩
    · rw [e3 c j (by omega), bq_sin _ _ (by omega)]
    · by_cases hqi : q = i
      · subst hqi
        rw [e3 _ _ (by omega), bq_sie]
      · rw [e4 q (by omega) hq', bq_sin _ _ (by omega)]
def bh_a (k : Nat) : Nat := if k < 100 then k else 99
def bh_i (k i : Nat) : Nat := if k < 100 then i else i + 1
theorem bh_ka {k : Nat} (_ : k ≤ 100) : bh_k k = bh_a k + 1 := by
  unfold bh_k bh_a
  split <;> omega
theorem bh_a100 {k : Nat} : bh_a k < 100 := by
  unfold bh_a
  split <;> omega
theorem bh_sti {k : Nat} (st : Nat → bwS) (S' : bwS) {i : Nat} (h : i ≤ bh_a k) : bh_st k st S' i = st (bh_i k i) := by
  unfold bh_st bh_i
  unfold bh_a at h
  by_cases hk : k < 100
  · rw [if_pos hk] at h
    rw [if_pos hk, if_pos hk, bp_up_ne _ (by omega)]
  · rw [if_neg hk] at h
    rw [if_neg hk, if_neg hk, bp_up_ne _ (by omega)]
theorem bh_stl {k : Nat} (hk : k ≤ 100) (st : Nat → bwS) (S' : bwS) : bh_st k st S' (bh_a k + 1) = S' := by
  rw [← bh_ka hk]; exact bh_last k st S'
theorem bh_iin {k : Nat} (hk : k ≤ 100) : bh_i k (bh_a k) = k := by
  unfold bh_i bh_a
  split <;> omega
theorem bh_i1 (k i : Nat) : bh_i k (i + 1) = bh_i k i + 1 := by
  unfold bh_i
  split <;> omega
theorem bh_ilt {k i : Nat} (hk : k ≤ 100) (h : i < bh_a k) : bh_i k i < k := by
  unfold bh_i
  unfold bh_a at h
  by_cases hk' : k < 100
  · rw [if_pos hk'] at h ⊢; omega
  · rw [if_neg hk'] at h ⊢; omega
theorem bq_300 (k i : Nat) : (300 : Int32) * nI k + nI i = nI (300 * k + i) := by rw [show (300 : Int32) = nI 300 from rfl, pk_mul, nI_add]
theorem sM_shift (d : Nat) (x1 x2 : Int32) (k : Nat) (hk : k ≤ 99) (o4 : Option bwV) (μ : bwM) (h : μ.1 30 25 = nI 100) : ∃ ν, eX4_note d 11 [some (.inr (.inr 30)), some (.inl x1), some (.inl x2), some (.inl (nI k)), o4] [] μ = eX4_note d 136 [some (.inr (.inr 30)), some (.inl x1), some (.inl x2), some (.inl (nI 99)), none] [] (bw_si ν 30 25 (nI 99)) ∧ ν.2 = μ.2 ∧ (∀ c, c < 48 ∨ 52 < c → ν.1 c = μ.1 c) ∧ (∀ c j, 48 ≤ c → c ≤ 51 → ν.1 c j = if k ≤ j ∧ j < 99 then μ.1 c (j + 1) else μ.1 c j) ∧ (∀ j, ν.1 52 j = if 300 * k ≤ j ∧ j < 29700 then μ.1 52 (j + 300) else μ.1 52 j) := by
  induction hj : 99 - k generalizing k o4 μ with
  | zero =>
    have : k = 99 := by omega
    subst this
    refine ⟨μ, ?_, rfl, fun _ _ => rfl, fun c j _ _ => by rw [if_neg (by omega)], fun j => by rw [if_neg (by omega)]⟩
    rw [qX4_note_11, nI_1, if_pos (by decide), h, nI_pred]
  | succ j ih =>
    have hc := bp_copy (fun i μ => eX4_note d 78 [some (.inr (.inr 30)), some (.inl x1), some (.inl x2), some (.inl (nI k)), some (.inl (nI i))] [] μ) 52 (300 * (k + 1)) 52 (300 * k) 300 (Or.inr (by omega)) (fun i π hi => by
      rw [qX4_note_78, if_neg (show ¬ (300 : Int32) ≤ nI i from nI_ge (b := 300) (by omega) (by omega)), nI_1, bq_300, bq_300, if_pos ((bq_ii (by omega)).2 (by omega)), if_pos ((bq_ii (by omega)).2 (by omega)), nI_clamp (by omega), nI_clamp (by omega), qX4_note_114, nI_1]) 0 (by omega) (bw_si (bw_si (bw_si (bw_si μ 48 k (μ.1 48 (k + 1))) 49 k (μ.1 49 (k + 1))) 50 k (μ.1 50 (k + 1))) 51 k (μ.1 51 (k + 1)))
    obtain ⟨π, f1, f2, f3, f4⟩ := hc
    have p25 : π.1 30 25 = nI 100 := by
      rw [f3 _ _ (by omega), bq_sin _ _ (by omega), bq_sin _ _ (by omega), bq_sin _ _ (by omega), bq_sin _ _ (by omega)]; exact h
    obtain ⟨ν, e1, e2, e3, e4, e5⟩ := ih (k + 1) (by omega) (some (.inl (nI 300))) π p25 (by omega)
    refine ⟨ν, ?_, e2.trans f2, fun c hc => ?_, fun c j hc hc' => ?_, fun j => ?_⟩
    · rw [qX4_note_11, nI_1, if_neg (show ¬ (100 : Int32) ≤ nI (k + 1) from nI_ge (b := 100) (by omega) (by omega))]
      simp only [bq_it (show k + 1 < 100 by omega) (by decide), bq_it (show k < 100 by omega) (by decide)]
      rw [nI_clamp (by omega), nI_clamp (by omega), bq_sin (o' := 49) _ _ (by omega), qX4_note_47, nI_1]
      simp only [bq_it (show k + 1 < 100 by omega) (by decide), bq_it (show k < 100 by omega) (by decide)]
      rw [nI_clamp (by omega), nI_clamp (by omega), bq_sin (o' := 50) _ _ (by omega), bq_sin (o' := 50) _ _ (by omega), bq_sin (o' := 51) _ _ (by omega), bq_sin (o' := 51) _ _ (by omega), bq_sin (o' := 51) _ _ (by omega), qX4_note_75, show (0 : Int32) = nI 0 from rfl]
      refine f1.trans ?_
      show eX4_note d 78 _ [] π = _
      rw [qX4_note_78, if_pos (by decide), nI_1]
      exact e1
    · rw [e3 c hc]
      funext j
      rw [f3 _ _ (by omega), bq_sin _ _ (by omega), bq_sin _ _ (by omega), bq_sin _ _ (by omega), bq_sin _ _ (by omega)]
    · rw [e4 c j hc hc', f3 _ _ (by omega), f3 _ _ (by omega)]
      have hcc : c = 48 ∨ c = 49 ∨ c = 50 ∨ c = 51 := by omega
      by_cases h1 : k + 1 ≤ j ∧ j < 99
      · rw [if_pos h1, if_pos (by omega), bq_sin _ _ (by omega), bq_sin _ _ (by omega), bq_sin _ _ (by omega), bq_sin _ _ (by omega)]
      · rw [if_neg h1]
        by_cases h2 : j = k
        · subst h2
          rw [if_pos (by omega)]
          rcases hcc with rfl | rfl | rfl | rfl
          · rw [bq_sin _ _ (by omega), bq_sin _ _ (by omega), bq_sin _ _ (by omega), bq_sie]
          · rw [bq_sin _ _ (by omega), bq_sin _ _ (by omega), bq_sie]
          · rw [bq_sin _ _ (by omega), bq_sie]
          · rw [bq_sie]
        · rw [if_neg (by omega), bq_sin _ _ (by omega), bq_sin _ _ (by omega), bq_sin _ _ (by omega), bq_sin _ _ (by omega)]
    · rw [e5 j]
      by_cases h1 : 300 * (k + 1) ≤ j ∧ j < 29700
      · rw [if_pos h1, if_pos (by omega), f3 _ _ (by omega), bq_sin _ _ (by omega), bq_sin _ _ (by omega), bq_sin _ _ (by omega), bq_sin _ _ (by omega)]
      · rw [if_neg h1]
        by_cases h2 : 300 * k ≤ j ∧ j < 300 * (k + 1)
        · have h4 := f4 (j - 300 * k) (by omega) (by omega)
          rw [show 300 * k + (j - 300 * k) = j by omega, show 300 * (k + 1) + (j - 300 * k) = j + 300 by omega] at h4
          rw [if_pos (by omega), h4, bq_sin _ _ (by omega), bq_sin _ _ (by omega), bq_sin _ _ (by omega), bq_sin _ _ (by omega)]
        · rw [if_neg (by omega), f3 _ _ (by omega), bq_sin _ _ (by omega), bq_sin _ _ (by omega), bq_sin _ _ (by omega), bq_sin _ _ (by omega)]
/-- what a note leaves alone -/
def bw_nt (k : Nat) (x1 x2 : Int32) (μ ν : bwM) : Prop := ν.1 30 25 = nI (bh_a k + 1) ∧ (∀ j, j ≠ 25 → ν.1 30 j = μ.1 30 j) ∧ ν.2 = μ.2 ∧ (∀ c, c ≠ 30 → c < 48 ∨ 52 < c → ν.1 c = μ.1 c) ∧ (∀ i, i < bh_a k → ν.1 48 i = μ.1 48 (bh_i k i) ∧ ν.1 49 i = μ.1 49 (bh_i k i) ∧ ν.1 50 i = μ.1 50 (bh_i k i) ∧ ν.1 51 i = μ.1 51 (bh_i k i) ∧ ∀ j, j < 300 → ν.1 52 (300 * i + j) = μ.1 52 (300 * bh_i k i + j)) ∧ ν.1 48 (bh_a k) = x1 ∧ ν.1 49 (bh_a k) = x2
/-- note up to its writing: the log has room at bh_a k -/
theorem sM_room (d : Nat) (x1 x2 : Int32) {k : Nat} (hk : k ≤ 100) (μ : bwM) (h : μ.1 30 25 = nI k) : ∃ (π : bwM) (o3 : Option bwV), bw_call (d + 1) 139 [.inr (.inr 30), .inl x1, .inl x2] μ = eX4_note d 136 [some (.inr (.inr 30)), some (.inl x1), some (.inl x2), o3, none] [] π ∧ π.1 30 25 = nI (bh_a k) ∧ (∀ j, j ≠ 25 → π.1 30 j = μ.1 30 j) ∧ π.2 = μ.2 ∧ (∀ c, c ≠ 30 → c < 48 ∨ 52 < c → π.1 c = μ.1 c) ∧ (∀ i, i < bh_a k → π.1 48 i = μ.1 48 (bh_i k i) ∧ π.1 49 i = μ.1 49 (bh_i k i) ∧ π.1 50 i = μ.1 50 (bh_i k i) ∧ π.1 51 i = μ.1 51 (bh_i k i) ∧ ∀ j, j < 300 → π.1 52 (300 * i + j) = μ.1 52 (300 * bh_i k i + j)) := by
  rw [qX4_note, h, show (100 : Int32) = nI 100 from rfl]
  by_cases hk' : k < 100
  · have ha : bh_a k = k := if_pos hk'
    have hi : ∀ i, bh_i k i = i := fun i => if_pos hk'
    rw [if_neg (fun he => by have := (nI_eq (by omega) (by omega)).1 he; omega)]
    simp only [ha, hi]
    exact ⟨μ, none, rfl, h, fun _ _ => rfl, rfl, fun _ _ _ => rfl, fun i _ => ⟨rfl, rfl, rfl, rfl, fun _ _ => rfl⟩⟩
  · have : k = 100 := by omega
    subst this
    obtain ⟨ν, e1, e2, e3, e4, e5⟩ := sM_shift d x1 x2 0 (by omega) none μ h
    have ha : bh_a 100 = 99 := rfl
    have hi : ∀ i, bh_i 100 i = i + 1 := fun i => rfl
    rw [if_pos rfl]
    simp only [ha, hi]
    refine ⟨bw_si ν 30 25 (nI 99), some (.inl (nI 99)), e1, bq_sie _ _ _ _, fun j hj => ?_, e2, fun c hc hc' => ?_, fun i hi => ?_⟩
    · rw [bq_sin _ _ (by omega), e3 30 (by omega)]
    · funext j
      rw [bq_sin _ _ (by omega), e3 c hc']
    · rw [bq_sin _ _ (by omega), bq_sin _ _ (by omega), bq_sin _ _ (by omega), bq_sin _ _ (by omega), e4 _ _ (by omega) (by omega), e4 _ _ (by omega) (by omega), e4 _ _ (by omega) (by omega), e4 _ _ (by omega) (by omega), if_pos (by omega), if_pos (by omega), if_pos (by omega), if_pos (by omega)]
      refine ⟨rfl, rfl, rfl, rfl, fun j hj => ?_⟩
      rw [bq_sin _ _ (by omega), e5, if_pos (by omega), show 300 * i + j + 300 = 300 * (i + 1) + j by omega]
theorem sM_note_o (d : Nat) (x1 x2 : Int32) (h1 : x1 ≠ 1) (h5 : x1 ≠ 5) {k : Nat} (hk : k ≤ 100) (μ : bwM) (h : μ.1 30 25 = nI k) : ∃ ν, bw_call (d + 1) 139 [.inr (.inr 30), .inl x1, .inl x2] μ = some (none, ν) ∧ bw_nt k x1 x2 μ ν := by
  obtain ⟨π, o3, e1, e2, e3, e4, e5, e6⟩ := sM_room d x1 x2 hk μ h
  have ha : bh_a k < 100 := bh_a100
  refine ⟨bw_si (bw_si (bw_si (bw_si π 48 (bh_a k) x1) 49 (bh_a k) x2) 50 (bh_a k) (π.1 30 10)) 30 25 (nI (bh_a k + 1)), ?_, bq_sie _ _ _ _, fun j hj => ?_, e4, fun c hc hc' => ?_, fun i hi => ?_, ?_, ?_⟩
  · have q1 : ∀ m, (bw_si π 48 (bh_a k) x1).1 30 m = π.1 30 m := fun m => bq_sin _ _ (by omega)
    have q2 : ∀ m, (bw_si (bw_si π 48 (bh_a k) x1) 49 (bh_a k) x2).1 30 m = π.1 30 m := fun m => by rw [bq_sin _ _ (by omega), bq_sin _ _ (by omega)]
    rw [e1, qX4_note_136, e2]
    simp only [nI_clamp (show bh_a k < 2 ^ 31 by omega), q1, q2, e2, bq_it ha (by decide)]
    rw [if_neg h1, qX4_note_191, if_pos ((bq_ii (by omega)).2 ha), nI_clamp (by omega), qX4_note_195, if_neg (by decide), if_neg h1, qX4_note_236, qX4_note_239, if_neg (by decide), if_neg h1, qX4_note_280, qX4_note_283, if_neg (by decide), if_neg h5, qX4_note_318, bq_sin (o' := 30) (j' := 25) _ _ (by omega), bq_sin (o' := 30) (j' := 25) _ _ (by omega), bq_sin (o' := 30) (j' := 25) _ _ (by omega), e2, nI_1]
  · rw [bq_sin _ _ (by omega), bq_sin _ _ (by omega), bq_sin _ _ (by omega), bq_sin _ _ (by omega), e3 j hj]
  · funext j
    rw [bq_sin _ _ (by omega), bq_sin _ _ (by omega), bq_sin _ _ (by omega), bq_sin _ _ (by omega), e5 c hc hc']
  · have := e6 i hi
    rw [bq_sin _ _ (by omega), bq_sin _ _ (by omega), bq_sin _ _ (by omega), bq_sin _ _ (by omega), bq_sin _ _ (by omega), bq_sin _ _ (by omega), bq_sin _ _ (by omega), bq_sin _ _ (by omega), bq_sin _ _ (by omega), bq_sin _ _ (by omega), bq_sin _ _ (by omega), bq_sin _ _ (by omega), bq_sin _ _ (by omega), bq_sin _ _ (by omega), bq_sin _ _ (by omega), bq_sin _ _ (by omega)]
    refine ⟨this.1, this.2.1, this.2.2.1, this.2.2.2.1, fun j hj => ?_⟩
    rw [bq_sin _ _ (by omega), bq_sin _ _ (by omega), bq_sin _ _ (by omega), bq_sin _ _ (by omega)]
    exact this.2.2.2.2 j hj
  · rw [bq_sin _ _ (by omega), bq_sin _ _ (by omega), bq_sin _ _ (by omega), bq_sie]
  · rw [bq_sin _ _ (by omega), bq_sin _ _ (by omega), bq_sie]
