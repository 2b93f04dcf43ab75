/-! PURE: the acts that the class remembers: the chain of webs from the start to now. -/
abbrev bwOp : Type := Int32 × Int32 × Int32 × Int32 × Int32
def bw_at (μ : bwM) (p : Nat) (op : bwOp) : Prop := μ.1 23 p = op.1 ∧ μ.1 23 (p + 1) = op.2.1 ∧ μ.1 23 (p + 2) = op.2.2.1 ∧ μ.1 23 (p + 3) = op.2.2.2.1 ∧ μ.1 23 (p + 4) = op.2.2.2.2
def bwH (st : Nat → bwS) (ac : Nat → bwOp) (k f : Nat) (μ : bwM) : Prop := k ≤ 100 ∧ f < 100 ∧ μ.1 22 2 = nI f ∧ μ.1 22 3 = nI k ∧ (∀ i, i ≤ k → bwOK (st i)) ∧ (∀ i, i < k → bw_act (ac i) (st i) (st (i + 1))) ∧ bwC 12 (st 0) μ ∧ (∀ i, i < k → bw_at μ (5 * ((f + i) % 100)) (ac i))
theorem fr_h {st : Nat → bwS} {ac : Nat → bwOp} {k f : Nat} {μ ν : bwM} (h : bwH st ac k f μ) (hf : ∀ c, 12 ≤ c → c < 24 → ν.1 c = μ.1 c) : bwH st ac k f ν := by
  obtain ⟨h1, h2, h3, h4, h5, h6, h7, h8⟩ := h
  refine ⟨h1, h2, ?_, ?_, h5, h6, fr_c h7 (fun i hi => hf _ (by omega) (by omega)), fun i hi => ?_⟩
  · rw [hf 22 (by omega) (by omega)]; exact h3
  · rw [hf 22 (by omega) (by omega)]; exact h4
  · have := h8 i hi
    unfold bw_at at this ⊢
    rw [hf 23 (by omega) (by omega)]; exact this
theorem sH_place (d : Nat) {f k : Nat} {μ : bwM} (hf : f < 100) (hk : k ≤ 100) (h : μ.1 22 2 = nI f) : bw_call (d + 1) 4 [.inr (.inr 22), .inl (nI k)] μ = some (some (.inl (nI (5 * ((f + k) % 100)))), μ) := by
  rw [qX0_placeOf, if_neg (by decide), h, nI_add, show (100 : Int32) = nI 100 from rfl, pk_rem (by omega) (by omega) (by omega), show (5 : Int32) = nI 5 from rfl, pk_mul, Nat.mul_comm]
/-- an act written at its place -/
def bw_pa (μ : bwM) (p k : Nat) (op : bwOp) : bwM := bw_si (bw_si (bw_si (bw_si (bw_si (bw_si μ 23 p op.1) 23 (p + 1) op.2.1) 23 (p + 2) op.2.2.1) 23 (p + 3) op.2.2.2.1) 23 (p + 4) op.2.2.2.2) 22 3 (nI (k + 1))
theorem bw_pa_f (μ : bwM) (p k : Nat) (op : bwOp) {c : Nat} (h : c ≠ 22 ∧ c ≠ 23) : (bw_pa μ p k op).1 c = μ.1 c := by
  funext j
  unfold bw_pa
  rw [bq_sin _ _ (by omega), bq_sin _ _ (by omega), bq_sin _ _ (by omega), bq_sin _ _ (by omega), bq_sin _ _ (by omega), bq_sin _ _ (by omega)]
theorem bw_pa_2 (μ : bwM) (p k : Nat) (op : bwOp) {j : Nat} (h : j ≠ 3) : (bw_pa μ p k op).1 22 j = μ.1 22 j := by
  unfold bw_pa
  rw [bq_sin _ _ (by omega), bq_sin _ _ (by omega), bq_sin _ _ (by omega), bq_sin _ _ (by omega), bq_sin _ _ (by omega), bq_sin _ _ (by omega)]
theorem bw_pa_3 (μ : bwM) (p k : Nat) (op : bwOp) : (bw_pa μ p k op).1 22 3 = nI (k + 1) := bq_sie _ _ _ _
theorem bw_pa_n (μ : bwM) (p k : Nat) (op : bwOp) {j : Nat} (h : j < p ∨ p + 5 ≤ j) : (bw_pa μ p k op).1 23 j = μ.1 23 j := by
  unfold bw_pa
  rw [bq_sin _ _ (by omega), bq_sin _ _ (by omega), bq_sin _ _ (by omega), bq_sin _ _ (by omega), bq_sin _ _ (by omega), bq_sin _ _ (by omega)]
theorem bw_pa_at (μ : bwM) (p k : Nat) (op : bwOp) : bw_at (bw_pa μ p k op) p op := by
  unfold bw_pa
  refine ⟨?_, ?_, ?_, ?_, ?_⟩
  · rw [bq_sin _ _ (by omega), bq_sin _ _ (by omega), bq_sin _ _ (by omega), bq_sin _ _ (by omega), bq_sin _ _ (by omega), bq_sie]
  · rw [bq_sin _ _ (by omega), bq_sin _ _ (by omega), bq_sin _ _ (by omega), bq_sin _ _ (by omega), bq_sie]
  · rw [bq_sin _ _ (by omega), bq_sin _ _ (by omega), bq_sin _ _ (by omega), bq_sie]
  · rw [bq_sin _ _ (by omega), bq_sin _ _ (by omega), bq_sie]
  · rw [bq_sin _ _ (by omega), bq_sie]
theorem bq_k (a k : Nat) : nI a + Int32.ofNat k = nI (a + k) := nI_add a k
theorem sH_put (d : Nat) {f k : Nat} {μ : bwM} (op : bwOp) (hf : f < 100) (hk : k < 100) (h2 : μ.1 22 2 = nI f) (h3 : μ.1 22 3 = nI k) : eX0_add (d + 1) 41 [some (.inr (.inr 22)), some (.inl op.1), some (.inl op.2.1), some (.inl op.2.2.1), some (.inl op.2.2.2.1), some (.inl op.2.2.2.2), none] [] μ = some (none, bw_pa μ (5 * ((f + k) % 100)) k op) := by
  rw [qX0_add_41, h3, sH_place d hf (by omega) h2, bq_I]
  have hp : (f + k) % 100 < 100 := Nat.mod_lt _ (by omega)
  rw [show (1 : Int32) = nI 1 from rfl, show (2 : Int32) = nI 2 from rfl, show (3 : Int32) = nI 3 from rfl, show (4 : Int32) = nI 4 from rfl, nI_add, nI_add, nI_add, nI_add, if_pos ((bq_ii (by omega)).2 (by omega)), if_pos ((bq_ii (by omega)).2 (by omega)), if_pos ((bq_ii (by omega)).2 (by omega)), if_pos ((bq_ii (by omega)).2 (by omega)), if_pos ((bq_ii (by omega)).2 (by omega)), nI_clamp (by omega), nI_clamp (by omega), nI_clamp (by omega), nI_clamp (by omega), nI_clamp (by omega), bq_sin (o' := 22) _ _ (by omega), bq_sin (o' := 22) _ _ (by omega), bq_sin (o' := 22) _ _ (by omega), bq_sin (o' := 22) _ _ (by omega), bq_sin (o' := 22) _ _ (by omega), h3, nI_add]
  rfl
theorem sH_repeat (d : Nat) {w : Nat} (hw : w = 2 ∨ w = 12) {f i : Nat} {μ : bwM} {op : bwOp} {S S' : bwS} (hf : f < 100) (hi : i < 100) (h2 : μ.1 22 2 = nI f) (hat : bw_at μ (5 * ((f + i) % 100)) op) (hS : bwOK S) (hS' : bwOK S') (ha : bw_act op S S') (hR : bwC w S μ) : ∃ ν, bw_call (d + 6) 3 [.inr (.inr 22), .inl (nI i), .inr (.inr w)] μ = some (none, ν) ∧ bwC w S' ν ∧ ν.2 = μ.2 ∧ (∀ c, c < w ∨ w + 9 < c → ν.1 c = μ.1 c) := by
  obtain ⟨ν, e1, e2⟩ := sW_carry d hw hS hS' ha hR
  refine ⟨ν, ?_, e2⟩
  have hp : (f + i) % 100 < 100 := Nat.mod_lt _ (by omega)
  rw [qX0_repeat _ hw, sH_place _ hf (by omega) h2, bq_I]
  rw [show (1 : Int32) = nI 1 from rfl, show (2 : Int32) = nI 2 from rfl, show (3 : Int32) = nI 3 from rfl, show (4 : Int32) = nI 4 from rfl, nI_add, nI_add, nI_add, nI_add, if_pos ((bq_ii (by omega)).2 (by omega)), if_pos ((bq_ii (by omega)).2 (by omega)), if_pos ((bq_ii (by omega)).2 (by omega)), if_pos ((bq_ii (by omega)).2 (by omega)), if_pos ((bq_ii (by omega)).2 (by omega)), nI_clamp (by omega), nI_clamp (by omega), nI_clamp (by omega), nI_clamp (by omega), nI_clamp (by omega), hat.1, hat.2.1, hat.2.2.1, hat.2.2.2.1, hat.2.2.2.2, e1, bq_V]
/-- the chain behind one act more; beyond a hundred the oldest goes -/
def bh_st (k : Nat) (st : Nat → bwS) (S' : bwS) : Nat → bwS := if k < 100 then bp_up st (k + 1) S' else bp_up (fun i => st (i + 1)) 100 S'
def bh_ac (k : Nat) (ac : Nat → bwOp) (op : bwOp) : Nat → bwOp := if k < 100 then bp_up ac k op else bp_up (fun i => ac (i + 1)) 99 op
def bh_k (k : Nat) : Nat := if k < 100 then k + 1 else 100
def bh_f (k f : Nat) : Nat := if k < 100 then f else (f + 1) % 100
theorem sH_add (d : Nat) {st : Nat → bwS} {ac : Nat → bwOp} {k f : Nat} {μ : bwM} (h : bwH st ac k f μ) {op : bwOp} {S' : bwS} (ha : bw_act op (st k) S') (hS' : bwOK S') : ∃ ν, bw_call (d + 7) 1 [.inr (.inr 22), .inl op.1, .inl op.2.1, .inl op.2.2.1, .inl op.2.2.2.1, .inl op.2.2.2.2] μ = some (none, ν) ∧ bwH (bh_st k st S') (bh_ac k ac op) (bh_k k) (bh_f k f) ν ∧ ν.2 = μ.2 ∧ (∀ c, c < 12 ∨ 23 < c → ν.1 c = μ.1 c) := by
  obtain ⟨h1, h2, h3, h4, h5, h6, h7, h8⟩ := h
  rw [qX0_add, h4]
  by_cases hk : k < 100
  · refine ⟨bw_pa μ (5 * ((f + k) % 100)) k op, ?_, ?_, rfl, fun c hc => bw_pa_f _ _ _ _ (by omega)⟩
    · rw [if_pos (show nI k < (100 : Int32) from nI_lt (b := 100) hk (by omega))]
      exact sH_put _ op h2 hk h3 h4
    · unfold bh_st bh_ac bh_k bh_f
      rw [if_pos hk, if_pos hk, if_pos hk, if_pos hk]
      refine ⟨by omega, h2, by rw [bw_pa_2 _ _ _ _ (by omega)]; exact h3, bw_pa_3 _ _ _ _, fun i hi => ?_, fun i hi => ?_, ?_, fun i hi => ?_⟩
      · by_cases hik : i = k + 1
        · rw [hik, bp_up_eq]; exact hS'
        · rw [bp_up_ne _ hik]; exact h5 i (by omega)
      · by_cases hik : i = k
        · rw [hik, bp_up_eq, bp_up_eq, bp_up_ne _ (by omega)]; exact ha
        · rw [bp_up_ne _ hik, bp_up_ne _ (by omega), bp_up_ne _ (by omega)]; exact h6 i (by omega)
      · rw [bp_up_ne _ (by omega)]
        exact fr_c h7 (fun i hi => bw_pa_f _ _ _ _ (by omega))
      · by_cases hik : i = k
        · rw [hik, bp_up_eq]; exact bw_pa_at _ _ _ _
        · have hat := h8 i (by omega)
          have hne : (f + i) % 100 ≠ (f + k) % 100 := by omega
          rw [bp_up_ne _ hik]
          unfold bw_at at hat ⊢
          rw [bw_pa_n _ _ _ _ (by omega), bw_pa_n _ _ _ _ (by omega), bw_pa_n _ _ _ _ (by omega), bw_pa_n _ _ _ _ (by omega), bw_pa_n _ _ _ _ (by omega)]
          exact hat
  · have hk' : k = 100 := by omega
    subst hk'
    obtain ⟨m, e1, e2, e3, e4⟩ := sH_repeat d (w := 12) (Or.inr rfl) (i := 0) h2 (by omega) h3 (h8 0 (by omega)) (h5 0 (by omega)) (h5 1 (by omega)) (h6 0 (by omega)) h7
    have m2 : m.1 22 2 = nI f := by rw [e4 22 (by omega)]; exact h3
    have m3 : m.1 22 3 = nI 100 := by rw [e4 22 (by omega)]; exact h4
    have hq := sH_put (d + 5) op (f := (f + 1) % 100) (k := 99) (μ := bw_si (bw_si m 22 2 (nI ((f + 1) % 100))) 22 3 (nI 99)) (Nat.mod_lt _ (by omega)) (by omega) (by rw [bq_sin _ _ (by omega), bq_sie]) (bq_sie _ _ _ _)
    refine ⟨bw_pa (bw_si (bw_si m 22 2 (nI ((f + 1) % 100))) 22 3 (nI 99)) (5 * (((f + 1) % 100 + 99) % 100)) 99 op, ?_, ?_, e3, fun c hc => ?_⟩
    · rw [if_neg (show ¬ nI 100 < (100 : Int32) by decide), show (0 : Int32) = nI 0 from rfl, e1, bq_V, if_neg (by decide), bq_sin _ _ (by omega), m2, m3, nI_1, show (100 : Int32) = nI 100 from rfl, pk_rem (by omega) (by omega) (by omega), nI_pred 99]
      exact hq
    · unfold bh_st bh_ac bh_k bh_f
      rw [if_neg hk, if_neg hk, if_neg hk, if_neg hk]
      refine ⟨by omega, Nat.mod_lt _ (by omega), ?_, bw_pa_3 _ _ _ _, fun i hi => ?_, fun i hi => ?_, ?_, fun i hi => ?_⟩
      · rw [bw_pa_2 _ _ _ _ (by omega), bq_sin _ _ (by omega), bq_sie]
      · by_cases hik : i = 100
        · rw [hik, bp_up_eq]; exact hS'
        · rw [bp_up_ne _ hik]; exact h5 (i + 1) (by omega)
      · by_cases hik : i = 99
        · rw [hik, bp_up_eq, bp_up_eq, bp_up_ne _ (by omega)]; exact ha
        · rw [bp_up_ne _ hik, bp_up_ne _ (by omega), bp_up_ne _ (by omega)]; exact h6 (i + 1) (by omega)
      · rw [bp_up_ne _ (by omega)]
        refine fr_c e2 (fun i hi => ?_)
        rw [bw_pa_f _ _ _ _ (by omega)]
        funext j
        rw [bq_sin _ _ (by omega), bq_sin _ _ (by omega)]
      · by_cases hik : i = 99
        · rw [hik, bp_up_eq]; exact bw_pa_at _ _ _ _
        · have hat := h8 (i + 1) (by omega)
          have hne : ((f + 1) % 100 + i) % 100 = (f + (i + 1)) % 100 := by omega
          have hne' : ((f + 1) % 100 + 99) % 100 ≠ (f + (i + 1)) % 100 := by omega
          rw [bp_up_ne _ hik, hne]
          unfold bw_at at hat ⊢
          rw [bw_pa_n _ _ _ _ (by omega), bw_pa_n _ _ _ _ (by omega), bw_pa_n _ _ _ _ (by omega), bw_pa_n _ _ _ _ (by omega), bw_pa_n _ _ _ _ (by omega), bq_sin _ _ (by omega), bq_sin _ _ (by omega), bq_sin _ _ (by omega), bq_sin _ _ (by omega), bq_sin _ _ (by omega), bq_sin _ _ (by omega), bq_sin _ _ (by omega), bq_sin _ _ (by omega), bq_sin _ _ (by omega), bq_sin _ _ (by omega), e4 23 (by omega)]
          exact hat
    · rw [bw_pa_f _ _ _ _ (by omega)]
      funext j
      rw [bq_sin _ _ (by omega), bq_sin _ _ (by omega), e4 c (by omega)]
theorem bh_last (k : Nat) (st : Nat → bwS) (S' : bwS) : bh_st k st S' (bh_k k) = S' := by
  unfold bh_st bh_k
  split
  · exact bp_up_eq _ _ _
  · exact bp_up_eq _ _ _
/-- BeliefWeb.carryOut -/
theorem sB_carry (d : Nat) {st : Nat → bwS} {ac : Nat → bwOp} {k f : Nat} {μ : bwM} (h : bwH st ac k f μ) (hR : bwC 2 (st k) μ) {op : bwOp} {S' : bwS} (ha : bw_act op (st k) S') (hS' : bwOK S') : ∃ ν, bw_call (d + 8) 74 [.inr (.inr 0), .inl op.1, .inl op.2.1, .inl op.2.2.1, .inl op.2.2.2.1, .inl op.2.2.2.2] μ = some (none, ν) ∧ bwH (bh_st k st S') (bh_ac k ac op) (bh_k k) (bh_f k f) ν ∧ bwC 2 S' ν ∧ ν.2 = μ.2 ∧ (∀ c, c < 2 ∨ 23 < c → ν.1 c = μ.1 c) := by
  have hk := h.1
  obtain ⟨ν, e1, e2, e3, e4⟩ := sH_add d h ha hS'
  have hR' : bwC 2 (st k) ν := fr_c hR (fun i hi => e4 _ (by omega))
  obtain ⟨π, f1, f2, f3, f4⟩ := sW_carry (d + 2) (w := 2) (Or.inl rfl) (h.2.2.2.2.1 k (by omega)) hS' ha hR'
  refine ⟨π, ?_, fr_h e2 (fun c h1 h2 => f4 c (by omega)), f2, f3.trans e3, fun c hc => by rw [f4 c (by omega), e4 c (by omega)]⟩
  rw [qX3_carryOut, e1, bq_V, f1, bq_V]
theorem sH_back_go (d : Nat) {st : Nat → bwS} {ac : Nat → bwOp} {k f : Nat} (i : Nat) (hi : i ≤ k) (μ : bwM) (h : bwH st ac k f μ) (hR : bwC 2 (st i) μ) : ∃ ν, eX0_takeBackLatest (d + 6) 28 [some (.inr (.inr 22)), some (.inr (.inr 2)), some (.inl (nI i))] [] μ = some (none, ν) ∧ bwH st ac k f ν ∧ bwC 2 (st k) ν ∧ ν.2 = μ.2 ∧ (∀ c, c < 2 ∨ 11 < c → ν.1 c = μ.1 c) := by
  induction hj : k - i generalizing i μ with
  | zero =>
    have : i = k := by omega
    subst this
    refine ⟨μ, ?_, h, hR, rfl, fun _ _ => rfl⟩
    have hk := h.1
    rw [qX0_takeBackLatest_28, h.2.2.2.1, if_pos (nI_le (by omega) (by omega))]
  | succ j ih =>
    have h0 := h
    obtain ⟨h1, h2, h3, h4, h5, h6, h7, h8⟩ := h
    obtain ⟨m, e1, e2, e3, e4⟩ := sH_repeat d (w := 2) (Or.inl rfl) (i := i) h2 (by omega) h3 (h8 i (by omega)) (h5 i (by omega)) (h5 (i + 1) (by omega)) (h6 i (by omega)) hR
    obtain ⟨ν, f1, f2, f3, f4, f5⟩ := ih (i + 1) (by omega) m (fr_h h0 (fun c hc hc' => e4 c (by omega))) e2 (by omega)
    refine ⟨ν, ?_, f2, f3, f4.trans e3, fun c hc => by rw [f5 c hc, e4 c (by omega)]⟩
    rw [qX0_takeBackLatest_28, h4, if_neg (nI_ge (by omega) (by omega)), e1, bq_V, nI_1]
    exact f1
/-- History.takeBackLatest -/
theorem sH_back (d : Nat) {st : Nat → bwS} {ac : Nat → bwOp} {k f : Nat} {μ : bwM} (h : bwH st ac (k + 1) f μ) : ∃ ν, bw_call (d + 7) 2 [.inr (.inr 22), .inr (.inr 2)] μ = some (none, ν) ∧ bwH st ac k f ν ∧ bwC 2 (st k) ν ∧ ν.2 = μ.2 ∧ (∀ c, c < 2 ∨ 23 < c → ν.1 c = μ.1 c) := by
  obtain ⟨h1, h2, h3, h4, h5, h6, h7, h8⟩ := h
  have hf : ∀ c, c ≠ 22 → (bw_si μ 22 3 (nI k)).1 c = μ.1 c := fun c hc => by
    funext j
    rw [bq_sin _ _ (by omega)]
  have hc := sW_copy (d + 4) (w := 2) (u := 12) (Or.inl ⟨rfl, rfl⟩) (μ := bw_si μ 22 3 (nI k)) (h5 0 (by omega)) (fr_c h7 (fun i hi => hf _ (by omega)))
  have hH : bwH st ac k f (bw_cpw 2 12 (bw_si μ 22 3 (nI k))) := by
    refine ⟨by omega, h2, ?_, ?_, fun i hi => h5 i (by omega), fun i hi => h6 i (by omega), fr_c h7 (fun i hi => ?_), fun i hi => ?_⟩
    · rw [hc.2.2.2 22 (by omega), bq_sin _ _ (by omega)]; exact h3
    · rw [hc.2.2.2 22 (by omega), bq_sie]
    · rw [hc.2.2.2 _ (by omega), hf _ (by omega)]
    · have := h8 i (by omega)
      unfold bw_at at this ⊢
      rw [hc.2.2.2 23 (by omega), hf 23 (by omega)]; exact this
  obtain ⟨ν, f1, f2, f3, f4, f5⟩ := sH_back_go d 0 (by omega) _ hH hc.2.1
  refine ⟨ν, ?_, f2, f3, f4.trans hc.2.2.1, fun c hc' => by rw [f5 c (by omega), hc.2.2.2 c (by omega), hf c (by omega)]⟩
  rw [qX0_takeBackLatest, h4, if_neg (nI_ne0 (by omega) (by omega)), nI_pred, hc.1, bq_V]
  exact f1
