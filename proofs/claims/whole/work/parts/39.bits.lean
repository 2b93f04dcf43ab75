/-! PURE: sets of things as bits. -/
theorem nI_or (a b : Nat) : nI a ||| nI b = nI (a ||| b) := by
  rw [← Int32.toBitVec_inj, Int32.toBitVec_or]
  show BitVec.ofNat 32 a ||| BitVec.ofNat 32 b = BitVec.ofNat 32 (a ||| b)
  rw [BitVec.ofNat_or]
theorem bs_31 : ∀ x, x < 12 → (nI x &&& 31) = nI x := by decide
theorem bs_one : ∀ x, x < 12 → (1 : Int32) <<< (nI x &&& 31) = nI (2 ^ x) := by decide
theorem bs_sm : ∀ x, x < 12 → ((nI x).toBitVec.smod 32).toNat = x := by decide
theorem sB_isIn (d : Nat) {m x : Nat} (hm : m < 4096) (hx : x < 12) (μ : bwM) : bw_call (d + 1) 84 [.inl (nI m), .inl (nI x)] μ = some (some (.inl (if m.testBit x = true then 1 else 0)), μ) := by
  rw [qX3_isIn, bs_31 x hx, pk_shrN (by omega) (nI x) x (bs_sm x hx), pk_andN (m := 1) (by have := Nat.div_le_self m (2 ^ x); omega) 1 (by decide), bq_0, bq_1, Nat.testBit_eq_decide_div_mod_eq]
  have hmod : m / 2 ^ x % 2 ^ 1 = m / 2 ^ x % 2 := by rw [Nat.pow_one]
  rw [hmod]
  by_cases h : m / 2 ^ x % 2 = 1
  · rw [h, if_neg (by decide), if_pos (by decide)]
  · rw [show m / 2 ^ x % 2 = 0 by omega, if_pos (by decide), if_neg (by decide)]
theorem bs_or_lt {a b : Nat} (ha : a < 4096) (hb : b < 4096) : a ||| b < 4096 := Nat.or_lt_two_pow (n := 12) ha hb
theorem bs_pow_lt {x : Nat} (hx : x < 12) : 2 ^ x < 4096 := Nat.pow_lt_pow_right (a := 2) (by omega) (n := 12) hx
theorem bs_or_iff (a b x : Nat) : (a ||| b).testBit x = true ↔ a.testBit x = true ∨ b.testBit x = true := by
  rw [Nat.testBit_or, Bool.or_eq_true]
theorem bs_pow_iff (p x : Nat) : (2 ^ p).testBit x = true ↔ x = p := by
  rw [Nat.testBit_two_pow, decide_eq_true_iff]
  exact ⟨fun h => h.symm, fun h => h.symm⟩
theorem bs_lt12 {m x : Nat} (hm : m < 4096) (h : m.testBit x = true) : x < 12 := by
  by_cases hx : x < 12
  · exact hx
  · rw [Nat.testBit_lt_two_pow (Nat.lt_of_lt_of_le hm (Nat.pow_le_pow_right (n := 2) (by omega) (show 12 ≤ x by omega)))] at h
    cases h
theorem bs_zero (x : Nat) : (0 : Nat).testBit x = false := Nat.zero_testBit x
theorem bs_sub (r m : Nat) (hr : r < 4096) : (nI r &&& (nI m ^^^ (-1 : Int32))) = 0 ↔ ∀ x, r.testBit x = true → m.testBit x = true := by
  rw [← Int32.toBitVec_inj, Int32.toBitVec_and, Int32.toBitVec_xor]
  show BitVec.ofNat 32 r &&& (BitVec.ofNat 32 m ^^^ BitVec.allOnes 32) = BitVec.ofNat 32 0 ↔ _
  constructor
  · intro h x hx
    have h12 := bs_lt12 hr hx
    have := congrArg (fun v => BitVec.getLsbD v x) h
    simp only [BitVec.getLsbD_and, BitVec.getLsbD_xor, BitVec.getLsbD_ofNat, BitVec.getLsbD_allOnes, show x < 32 by omega, decide_true, Bool.true_and, hx, bs_zero] at this
    cases hmx : m.testBit x with
    | true => rfl
    | false => rw [hmx] at this; simp at this
  · intro h
    apply BitVec.eq_of_getLsbD_eq
    intro i hi
    simp only [BitVec.getLsbD_and, BitVec.getLsbD_xor, BitVec.getLsbD_ofNat, BitVec.getLsbD_allOnes, hi, decide_true, Bool.true_and, bs_zero]
    cases hri : r.testBit i with
    | false => rfl
    | true => rw [h i hri]; rfl
theorem sW_ps_go (d : Nat) {w : Nat} (hw : w = 2 ∨ w = 12) {S : bwS} {μ : bwM} (hS : bwOK S) (hR : bwC w S μ) {x : Nat} (hx : x < gN S) (k : Nat) (hk : k ≤ (gP S x).length) (m : Nat) (hm : m < 4096) : ∃ q, q < 4096 ∧ eX2_parentSet (d + 1) 4 [some (.inr (.inr w)), some (.inl (nI x)), some (.inl (nI m)), some (.inl (nI k))] [] μ = some (some (.inl (nI q)), μ) ∧ ∀ y, q.testBit y = true ↔ m.testBit y = true ∨ y ∈ (gP S x).drop k := by
  have hn := ok_n hS
  have h3 := ok_p3 hS hx
  induction hj : (gP S x).length - k generalizing k m with
  | zero =>
    have : k = (gP S x).length := by omega
    subst this
    refine ⟨m, hm, ?_, fun y => by simp⟩
    rw [qX2_parentSet_4 _ hw, if_pos ((bq_ii (by omega)).2 (by omega)), nI_clamp (by omega), ra_c hR.1 hx, if_pos (nI_le (by omega) (by omega))]
  | succ j ih =>
    have hk' : k < (gP S x).length := by omega
    have hp := ok_pk hS hx hk'
    obtain ⟨q, q1, q2, q3⟩ := ih (k + 1) (by omega) (m ||| 2 ^ (gP S x)[k]) (bs_or_lt hm (bs_pow_lt (by omega))) (by omega)
    refine ⟨q, q1, ?_, fun y => ?_⟩
    · rw [qX2_parentSet_4 _ hw, if_pos ((bq_ii (by omega)).2 (by omega)), nI_clamp (by omega), ra_c hR.1 hx, if_neg (nI_ge (by omega) (by omega)), sB_parentSlot, bq_I, if_pos ((bq_ii (by omega)).2 (by omega)), nI_clamp (by omega), ra_p hR.1 hx hk', bs_one _ (by omega), nI_or, nI_1, q2]
    · rw [q3, bs_or_iff, bs_pow_iff, List.drop_eq_getElem_cons hk', List.mem_cons]
      constructor
      · rintro ((h | h) | h)
        · exact Or.inl h
        · exact Or.inr (Or.inl h)
        · exact Or.inr (Or.inr h)
      · rintro (h | h | h)
        · exact Or.inl (Or.inl h)
        · exact Or.inl (Or.inr h)
        · exact Or.inr h
theorem sW_ps (d : Nat) {w : Nat} (hw : w = 2 ∨ w = 12) {S : bwS} {μ : bwM} (hS : bwOK S) (hR : bwC w S μ) {x : Nat} (hx : x < gN S) : ∃ q, q < 4096 ∧ bw_call (d + 2) 32 [.inr (.inr w), .inl (nI x)] μ = some (some (.inl (nI q)), μ) ∧ ∀ y, q.testBit y = true ↔ y ∈ gP S x := by
  obtain ⟨q, q1, q2, q3⟩ := sW_ps_go d hw hS hR hx 0 (by omega) 0 (by omega)
  refine ⟨q, q1, ?_, fun y => ?_⟩
  · rw [qX2_parentSet _ hw]; exact q2
  · rw [q3, bs_zero]; simp
