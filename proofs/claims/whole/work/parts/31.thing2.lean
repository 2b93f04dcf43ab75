/-! PURE: thing, the call. -/
theorem bp_dec {x : Int32} {a b : Nat} (hb : b < 2 ^ 31) (hab : a ≤ b) (h1 : ¬ x < nI a) (h2 : x ≤ nI b) : ∃ n, a ≤ n ∧ n ≤ b ∧ x = nI n := by
  rw [Int32.lt_iff_toInt_lt, nI_toInt (by omega)] at h1
  rw [Int32.le_iff_toInt_le, nI_toInt hb] at h2
  refine ⟨x.toInt.toNat, by omega, by omega, Int32.toInt_inj.1 ?_⟩
  rw [nI_toInt (by omega)]
  omega
def bw_thA (x1 x2 : Int32) : Prop := ∃ n t, 2 ≤ n ∧ n ≤ 4 ∧ 1 ≤ t ∧ t ≤ 100 ∧ x1 = nI n ∧ x2 = nI t
def bw_thB (S : bwS) (n t : Nat) : Prop := gN S < 12 ∧ bp_prod (gV S) (gN S) * n ≤ 20000 ∧ bp_prod (gT S) (gN S) * t ≤ 1000000000
theorem bw_thA_cases (x1 x2 : Int32) (h1 : ¬ x1 < (2 : Int32)) (h2 : ¬ (4 : Int32) < x1) (h3 : ¬ x2 < (1 : Int32)) (h4 : x2 ≤ (100 : Int32)) : bw_thA x1 x2 := by
  obtain ⟨n, a1, a2, a3⟩ := bp_dec (a := 2) (b := 4) (by omega) (by omega) h1 (by
    rw [Int32.lt_iff_toInt_lt] at h2
    rw [Int32.le_iff_toInt_le]
    exact Int.not_lt.1 h2)
  obtain ⟨t, b1, b2, b3⟩ := bp_dec (a := 1) (b := 100) (by omega) (by omega) h3 h4
  exact ⟨n, t, a1, a2, b1, b2, a3, b3⟩
theorem sB_thing_bad (d : Nat) {x1 x2 : Int32} (h : ¬ bw_thA x1 x2) (μ : bwM) : bw_call (d + 1) 45 [.inr (.inr 0), .inl x1, .inl x2] μ = some (some (.inl (-1)), μ) := by
  rw [qX3_thing]
  by_cases h1 : x1 < (2 : Int32)
  · rw [if_pos h1]
  · rw [if_neg h1]
    by_cases h2 : (4 : Int32) < x1
    · rw [if_pos h2]
    · rw [if_neg h2]
      by_cases h3 : x2 < (1 : Int32)
      · rw [if_pos h3]
      · rw [if_neg h3, if_neg (fun h4 => h (bw_thA_cases x1 x2 h1 h2 h3 h4))]
theorem sM_thing_bad (d : Nat) {x1 x2 : Int32} (h : ¬ bw_thA x1 x2) (μ : bwM) : bw_call (d + 1) 88 [.inr (.inr 30), .inl x1, .inl x2] μ = some (some (.inl (-1)), μ) := by
  rw [qX4_thing]
  by_cases h1 : x1 < (2 : Int32)
  · rw [if_pos h1]
  · rw [if_neg h1]
    by_cases h2 : (4 : Int32) < x1
    · rw [if_pos h2]
    · rw [if_neg h2]
      by_cases h3 : x2 < (1 : Int32)
      · rw [if_pos h3]
      · rw [if_neg h3, if_neg (fun h4 => h (bw_thA_cases x1 x2 h1 h2 h3 h4))]
theorem sB_thing_at (d : Nat) {S : bwS} {μ : bwM} (hS : bwOK S) (hR : bwC 2 S μ) {n t : Nat} (hn : 2 ≤ n) (hn4 : n ≤ 4) (ht : 1 ≤ t) (ht100 : t ≤ 100) : (bw_thB S n t → bw_call (d + 2) 45 [.inr (.inr 0), .inl (nI n), .inl (nI t)] μ = eX3_thing (d + 1) 70 [some (.inr (.inr 0)), some (.inl (nI n)), some (.inl (nI t)), none] [] μ) ∧ (¬ bw_thB S n t → bw_call (d + 2) 45 [.inr (.inr 0), .inl (nI n), .inl (nI t)] μ = some (some (.inl (-3)), μ)) := by
  have hpv := ok_pv hS
  have hpt := ok_pt hS
  have h12 := ok_n hS
  have hpn : bp_prod (gV S) (gN S) * n ≤ 20000 * 4 := Nat.mul_le_mul hpv hn4
  have hpm : bp_prod (gT S) (gN S) * t ≤ 1000000000 * 100 := Nat.mul_le_mul hpt ht100
  rw [qX3_thing, if_neg (show ¬ nI n < (2 : Int32) from nI_nlt (b := 2) (by omega) (by omega)), if_neg (show ¬ (4 : Int32) < nI n from nI_nlt (a := 4) (by omega) (by omega)), if_neg (show ¬ nI t < (1 : Int32) from nI_nlt (b := 1) (by omega) (by omega)), if_pos (show nI t ≤ (100 : Int32) from nI_le (b := 100) (by omega) (by omega)), rc_n hR]
  unfold bw_thB
  by_cases h1 : gN S < 12
  · rw [if_neg (show ¬ (12 : Int32) ≤ nI (gN S) from nI_ge (b := 12) (by omega) (by omega)), sW_wholes _ (Or.inl rfl) hS hR, bq_I, pk_mul]
    by_cases h2 : bp_prod (gV S) (gN S) * n ≤ 20000
    · rw [if_neg (show ¬ (20000 : Int32) < nI _ from nI_nlt (a := 20000) h2 (by omega)), sW_totals _ (Or.inl rfl) hS hR, bq_L, nI_l (by omega), lN_mul, show Int64.ofNat 1000000000 = lN 1000000000 from rfl]
      by_cases h3 : bp_prod (gT S) (gN S) * t ≤ 1000000000
      · rw [if_pos ((lg_cmp_le _ _).2 ((pk_lLE (by omega) (by omega)).2 h3))]
        exact ⟨fun _ => rfl, fun h => absurd ⟨h1, h2, h3⟩ h⟩
      · rw [if_neg (fun h => h3 ((pk_lLE (by omega) (by omega)).1 ((lg_cmp_le _ _).1 h)))]
        exact ⟨fun h => absurd h.2.2 h3, fun _ => rfl⟩
    · rw [if_pos (show (20000 : Int32) < nI _ from nI_lt (a := 20000) (by omega) (by omega))]
      exact ⟨fun h => absurd h.2.1 h2, fun _ => rfl⟩
  · rw [if_pos (show (12 : Int32) ≤ nI (gN S) from nI_le (a := 12) (by omega) (by omega))]
    exact ⟨fun h => absurd h.1 h1, fun _ => rfl⟩
theorem sB_thing (d : Nat) {S : bwS} {μ : bwM} (hS : bwOK S) (hR : bwC 2 S μ) {n t : Nat} (hn : 2 ≤ n) (hn4 : n ≤ 4) (ht : 1 ≤ t) (ht100 : t ≤ 100) (h : bw_thB S n t) (ac : Nat → bwOp) : ∃ ν, bw_call (d + 5) 45 [.inr (.inr 0), .inl (nI n), .inl (nI t)] μ = some (some (.inl (nI (gN S))), ν) ∧ bwH (fun _ => bo_thing n t S) ac 0 0 ν ∧ bwC 2 (bo_thing n t S) ν ∧ ν.2 = μ.2 ∧ (∀ c, c < 2 ∨ 23 < c → ν.1 c = μ.1 c) := by
  have hS' := ok_thing hS hn hn4 ht ht100 h.1 h.2.1 h.2.2
  obtain ⟨π, e1, e2, e3, e4⟩ := sW_addThing d (t := t) hS hn hn4 h.1 hR
  have hc := sW_copy (d + 1) (w := 12) (u := 2) (Or.inr ⟨rfl, rfl⟩) hS' e2
  have hf : ∀ c, c ≠ 22 → (bw_si (bw_si (bw_cpw 12 2 π) 22 2 0) 22 3 0).1 c = (bw_cpw 12 2 π).1 c := fun c hc => by
    funext j
    rw [bq_sin _ _ (by omega), bq_sin _ _ (by omega)]
  refine ⟨bw_si (bw_si (bw_cpw 12 2 π) 22 2 0) 22 3 0, ?_, ⟨by omega, by omega, ?_, bq_sie _ _ _ _, fun _ _ => hS', fun i hi => by omega, fr_c hc.2.1 (fun i hi => hf _ (by omega)), fun i hi => by omega⟩, fr_c e2 (fun i hi => ?_), e3, fun c hc' => ?_⟩
  · rw [(sB_thing_at (d + 3) hS hR hn hn4 ht ht100).1 h, qX3_thing_70, e1, bq_V, qX0_startFrom, hc.1, bq_V, bq_V, rc_n hR]
  · rw [bq_sin _ _ (by omega), bq_sie]; rfl
  · rw [hf _ (by omega), hc.2.2.2 _ (by omega)]
  · rw [hf _ (by omega), hc.2.2.2 _ (by omega), e4 _ (by omega)]
