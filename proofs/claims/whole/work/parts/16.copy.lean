/-! Web.copyAll: System.arraycopy over the lesser of the two lengths. -/
set_option maxRecDepth 20000 in
theorem qX2_copyAll_3_13 (d : Nat) (μ : bwM) : bw_call (d + 1) 44 [.inr (.inr 3), .inr (.inr 13)] μ = some (none, bw_cp μ 3 13 0 0 12) := by
  refine (bw_ex_go [] 12 0 _ _ _).trans ?_
  show (if ((0 : Int32) ≤ 0 ∧ (0 : Int32) ≤ 0) ∧ (0 ≤ (if Int32.ofNat 12 < Int32.ofNat 12 then Int32.ofNat 12 else Int32.ofNat 12) ∧ (0 : Int32).toNatClampNeg + (if Int32.ofNat 12 < Int32.ofNat 12 then Int32.ofNat 12 else Int32.ofNat 12).toNatClampNeg ≤ 12 ∧ (0 : Int32).toNatClampNeg + (if Int32.ofNat 12 < Int32.ofNat 12 then Int32.ofNat 12 else Int32.ofNat 12).toNatClampNeg ≤ 12) then some (none, bw_cp μ 3 13 (0 : Int32).toNatClampNeg (0 : Int32).toNatClampNeg (if Int32.ofNat 12 < Int32.ofNat 12 then Int32.ofNat 12 else Int32.ofNat 12).toNatClampNeg) else none) = _
  rw [if_pos (by decide +kernel), show (0 : Int32).toNatClampNeg = 0 by decide +kernel, show (if Int32.ofNat 12 < Int32.ofNat 12 then Int32.ofNat 12 else Int32.ofNat 12).toNatClampNeg = 12 by decide +kernel]
set_option maxRecDepth 20000 in
theorem qX2_copyAll_4_14 (d : Nat) (μ : bwM) : bw_call (d + 1) 44 [.inr (.inr 4), .inr (.inr 14)] μ = some (none, bw_cp μ 4 14 0 0 12) := by
  refine (bw_ex_go [] 12 0 _ _ _).trans ?_
  show (if ((0 : Int32) ≤ 0 ∧ (0 : Int32) ≤ 0) ∧ (0 ≤ (if Int32.ofNat 12 < Int32.ofNat 12 then Int32.ofNat 12 else Int32.ofNat 12) ∧ (0 : Int32).toNatClampNeg + (if Int32.ofNat 12 < Int32.ofNat 12 then Int32.ofNat 12 else Int32.ofNat 12).toNatClampNeg ≤ 12 ∧ (0 : Int32).toNatClampNeg + (if Int32.ofNat 12 < Int32.ofNat 12 then Int32.ofNat 12 else Int32.ofNat 12).toNatClampNeg ≤ 12) then some (none, bw_cp μ 4 14 (0 : Int32).toNatClampNeg (0 : Int32).toNatClampNeg (if Int32.ofNat 12 < Int32.ofNat 12 then Int32.ofNat 12 else Int32.ofNat 12).toNatClampNeg) else none) = _
  rw [if_pos (by decide +kernel), show (0 : Int32).toNatClampNeg = 0 by decide +kernel, show (if Int32.ofNat 12 < Int32.ofNat 12 then Int32.ofNat 12 else Int32.ofNat 12).toNatClampNeg = 12 by decide +kernel]
set_option maxRecDepth 20000 in
theorem qX2_copyAll_5_15 (d : Nat) (μ : bwM) : bw_call (d + 1) 44 [.inr (.inr 5), .inr (.inr 15)] μ = some (none, bw_cp μ 5 15 0 0 12) := by
  refine (bw_ex_go [] 12 0 _ _ _).trans ?_
  show (if ((0 : Int32) ≤ 0 ∧ (0 : Int32) ≤ 0) ∧ (0 ≤ (if Int32.ofNat 12 < Int32.ofNat 12 then Int32.ofNat 12 else Int32.ofNat 12) ∧ (0 : Int32).toNatClampNeg + (if Int32.ofNat 12 < Int32.ofNat 12 then Int32.ofNat 12 else Int32.ofNat 12).toNatClampNeg ≤ 12 ∧ (0 : Int32).toNatClampNeg + (if Int32.ofNat 12 < Int32.ofNat 12 then Int32.ofNat 12 else Int32.ofNat 12).toNatClampNeg ≤ 12) then some (none, bw_cp μ 5 15 (0 : Int32).toNatClampNeg (0 : Int32).toNatClampNeg (if Int32.ofNat 12 < Int32.ofNat 12 then Int32.ofNat 12 else Int32.ofNat 12).toNatClampNeg) else none) = _
  rw [if_pos (by decide +kernel), show (0 : Int32).toNatClampNeg = 0 by decide +kernel, show (if Int32.ofNat 12 < Int32.ofNat 12 then Int32.ofNat 12 else Int32.ofNat 12).toNatClampNeg = 12 by decide +kernel]
set_option maxRecDepth 20000 in
theorem qX2_copyAll_6_16 (d : Nat) (μ : bwM) : bw_call (d + 1) 44 [.inr (.inr 6), .inr (.inr 16)] μ = some (none, bw_cp μ 6 16 0 0 36) := by
  refine (bw_ex_go [] 12 0 _ _ _).trans ?_
  show (if ((0 : Int32) ≤ 0 ∧ (0 : Int32) ≤ 0) ∧ (0 ≤ (if Int32.ofNat 36 < Int32.ofNat 36 then Int32.ofNat 36 else Int32.ofNat 36) ∧ (0 : Int32).toNatClampNeg + (if Int32.ofNat 36 < Int32.ofNat 36 then Int32.ofNat 36 else Int32.ofNat 36).toNatClampNeg ≤ 36 ∧ (0 : Int32).toNatClampNeg + (if Int32.ofNat 36 < Int32.ofNat 36 then Int32.ofNat 36 else Int32.ofNat 36).toNatClampNeg ≤ 36) then some (none, bw_cp μ 6 16 (0 : Int32).toNatClampNeg (0 : Int32).toNatClampNeg (if Int32.ofNat 36 < Int32.ofNat 36 then Int32.ofNat 36 else Int32.ofNat 36).toNatClampNeg) else none) = _
  rw [if_pos (by decide +kernel), show (0 : Int32).toNatClampNeg = 0 by decide +kernel, show (if Int32.ofNat 36 < Int32.ofNat 36 then Int32.ofNat 36 else Int32.ofNat 36).toNatClampNeg = 36 by decide +kernel]
set_option maxRecDepth 20000 in
theorem qX2_copyAll_7_17 (d : Nat) (μ : bwM) : bw_call (d + 1) 44 [.inr (.inr 7), .inr (.inr 17)] μ = some (none, bw_cp μ 7 17 0 0 3072) := by
  refine (bw_ex_go [] 12 0 _ _ _).trans ?_
  show (if ((0 : Int32) ≤ 0 ∧ (0 : Int32) ≤ 0) ∧ (0 ≤ (if Int32.ofNat 3072 < Int32.ofNat 3072 then Int32.ofNat 3072 else Int32.ofNat 3072) ∧ (0 : Int32).toNatClampNeg + (if Int32.ofNat 3072 < Int32.ofNat 3072 then Int32.ofNat 3072 else Int32.ofNat 3072).toNatClampNeg ≤ 3072 ∧ (0 : Int32).toNatClampNeg + (if Int32.ofNat 3072 < Int32.ofNat 3072 then Int32.ofNat 3072 else Int32.ofNat 3072).toNatClampNeg ≤ 3072) then some (none, bw_cp μ 7 17 (0 : Int32).toNatClampNeg (0 : Int32).toNatClampNeg (if Int32.ofNat 3072 < Int32.ofNat 3072 then Int32.ofNat 3072 else Int32.ofNat 3072).toNatClampNeg) else none) = _
  rw [if_pos (by decide +kernel), show (0 : Int32).toNatClampNeg = 0 by decide +kernel, show (if Int32.ofNat 3072 < Int32.ofNat 3072 then Int32.ofNat 3072 else Int32.ofNat 3072).toNatClampNeg = 3072 by decide +kernel]
set_option maxRecDepth 20000 in
theorem qX2_copyAll_8_18 (d : Nat) (μ : bwM) : bw_call (d + 1) 44 [.inr (.inr 8), .inr (.inr 18)] μ = some (none, bw_cp μ 8 18 0 0 12) := by
  refine (bw_ex_go [] 12 0 _ _ _).trans ?_
  show (if ((0 : Int32) ≤ 0 ∧ (0 : Int32) ≤ 0) ∧ (0 ≤ (if Int32.ofNat 12 < Int32.ofNat 12 then Int32.ofNat 12 else Int32.ofNat 12) ∧ (0 : Int32).toNatClampNeg + (if Int32.ofNat 12 < Int32.ofNat 12 then Int32.ofNat 12 else Int32.ofNat 12).toNatClampNeg ≤ 12 ∧ (0 : Int32).toNatClampNeg + (if Int32.ofNat 12 < Int32.ofNat 12 then Int32.ofNat 12 else Int32.ofNat 12).toNatClampNeg ≤ 12) then some (none, bw_cp μ 8 18 (0 : Int32).toNatClampNeg (0 : Int32).toNatClampNeg (if Int32.ofNat 12 < Int32.ofNat 12 then Int32.ofNat 12 else Int32.ofNat 12).toNatClampNeg) else none) = _
  rw [if_pos (by decide +kernel), show (0 : Int32).toNatClampNeg = 0 by decide +kernel, show (if Int32.ofNat 12 < Int32.ofNat 12 then Int32.ofNat 12 else Int32.ofNat 12).toNatClampNeg = 12 by decide +kernel]
set_option maxRecDepth 20000 in
theorem qX2_copyAll_9_19 (d : Nat) (μ : bwM) : bw_call (d + 1) 44 [.inr (.inr 9), .inr (.inr 19)] μ = some (none, bw_cp μ 9 19 0 0 12) := by
  refine (bw_ex_go [] 12 0 _ _ _).trans ?_
  show (if ((0 : Int32) ≤ 0 ∧ (0 : Int32) ≤ 0) ∧ (0 ≤ (if Int32.ofNat 12 < Int32.ofNat 12 then Int32.ofNat 12 else Int32.ofNat 12) ∧ (0 : Int32).toNatClampNeg + (if Int32.ofNat 12 < Int32.ofNat 12 then Int32.ofNat 12 else Int32.ofNat 12).toNatClampNeg ≤ 12 ∧ (0 : Int32).toNatClampNeg + (if Int32.ofNat 12 < Int32.ofNat 12 then Int32.ofNat 12 else Int32.ofNat 12).toNatClampNeg ≤ 12) then some (none, bw_cp μ 9 19 (0 : Int32).toNatClampNeg (0 : Int32).toNatClampNeg (if Int32.ofNat 12 < Int32.ofNat 12 then Int32.ofNat 12 else Int32.ofNat 12).toNatClampNeg) else none) = _
  rw [if_pos (by decide +kernel), show (0 : Int32).toNatClampNeg = 0 by decide +kernel, show (if Int32.ofNat 12 < Int32.ofNat 12 then Int32.ofNat 12 else Int32.ofNat 12).toNatClampNeg = 12 by decide +kernel]
set_option maxRecDepth 20000 in
theorem qX2_copyAll_10_20 (d : Nat) (μ : bwM) : bw_call (d + 1) 44 [.inr (.inr 10), .inr (.inr 20)] μ = some (none, bw_cp μ 10 20 0 0 48) := by
  refine (bw_ex_go [] 12 0 _ _ _).trans ?_
  show (if ((0 : Int32) ≤ 0 ∧ (0 : Int32) ≤ 0) ∧ (0 ≤ (if Int32.ofNat 48 < Int32.ofNat 48 then Int32.ofNat 48 else Int32.ofNat 48) ∧ (0 : Int32).toNatClampNeg + (if Int32.ofNat 48 < Int32.ofNat 48 then Int32.ofNat 48 else Int32.ofNat 48).toNatClampNeg ≤ 48 ∧ (0 : Int32).toNatClampNeg + (if Int32.ofNat 48 < Int32.ofNat 48 then Int32.ofNat 48 else Int32.ofNat 48).toNatClampNeg ≤ 48) then some (none, bw_cp μ 10 20 (0 : Int32).toNatClampNeg (0 : Int32).toNatClampNeg (if Int32.ofNat 48 < Int32.ofNat 48 then Int32.ofNat 48 else Int32.ofNat 48).toNatClampNeg) else none) = _
  rw [if_pos (by decide +kernel), show (0 : Int32).toNatClampNeg = 0 by decide +kernel, show (if Int32.ofNat 48 < Int32.ofNat 48 then Int32.ofNat 48 else Int32.ofNat 48).toNatClampNeg = 48 by decide +kernel]
set_option maxRecDepth 20000 in
theorem qX2_copyAll_11_21 (d : Nat) (μ : bwM) : bw_call (d + 1) 44 [.inr (.inr 11), .inr (.inr 21)] μ = some (none, bw_cp μ 11 21 0 0 288) := by
  refine (bw_ex_go [] 12 0 _ _ _).trans ?_
  show (if ((0 : Int32) ≤ 0 ∧ (0 : Int32) ≤ 0) ∧ (0 ≤ (if Int32.ofNat 288 < Int32.ofNat 288 then Int32.ofNat 288 else Int32.ofNat 288) ∧ (0 : Int32).toNatClampNeg + (if Int32.ofNat 288 < Int32.ofNat 288 then Int32.ofNat 288 else Int32.ofNat 288).toNatClampNeg ≤ 288 ∧ (0 : Int32).toNatClampNeg + (if Int32.ofNat 288 < Int32.ofNat 288 then Int32.ofNat 288 else Int32.ofNat 288).toNatClampNeg ≤ 288) then some (none, bw_cp μ 11 21 (0 : Int32).toNatClampNeg (0 : Int32).toNatClampNeg (if Int32.ofNat 288 < Int32.ofNat 288 then Int32.ofNat 288 else Int32.ofNat 288).toNatClampNeg) else none) = _
  rw [if_pos (by decide +kernel), show (0 : Int32).toNatClampNeg = 0 by decide +kernel, show (if Int32.ofNat 288 < Int32.ofNat 288 then Int32.ofNat 288 else Int32.ofNat 288).toNatClampNeg = 288 by decide +kernel]
set_option maxRecDepth 20000 in
theorem qX2_copyAll_13_3 (d : Nat) (μ : bwM) : bw_call (d + 1) 44 [.inr (.inr 13), .inr (.inr 3)] μ = some (none, bw_cp μ 13 3 0 0 12) := by
  refine (bw_ex_go [] 12 0 _ _ _).trans ?_
  show (if ((0 : Int32) ≤ 0 ∧ (0 : Int32) ≤ 0) ∧ (0 ≤ (if Int32.ofNat 12 < Int32.ofNat 12 then Int32.ofNat 12 else Int32.ofNat 12) ∧ (0 : Int32).toNatClampNeg + (if Int32.ofNat 12 < Int32.ofNat 12 then Int32.ofNat 12 else Int32.ofNat 12).toNatClampNeg ≤ 12 ∧ (0 : Int32).toNatClampNeg + (if Int32.ofNat 12 < Int32.ofNat 12 then Int32.ofNat 12 else Int32.ofNat 12).toNatClampNeg ≤ 12) then some (none, bw_cp μ 13 3 (0 : Int32).toNatClampNeg (0 : Int32).toNatClampNeg (if Int32.ofNat 12 < Int32.ofNat 12 then Int32.ofNat 12 else Int32.ofNat 12).toNatClampNeg) else none) = _
  rw [if_pos (by decide +kernel), show (0 : Int32).toNatClampNeg = 0 by decide +kernel, show (if Int32.ofNat 12 < Int32.ofNat 12 then Int32.ofNat 12 else Int32.ofNat 12).toNatClampNeg = 12 by decide +kernel]
set_option maxRecDepth 20000 in
theorem qX2_copyAll_14_4 (d : Nat) (μ : bwM) : bw_call (d + 1) 44 [.inr (.inr 14), .inr (.inr 4)] μ = some (none, bw_cp μ 14 4 0 0 12) := by
  refine (bw_ex_go [] 12 0 _ _ _).trans ?_
  show (if ((0 : Int32) ≤ 0 ∧ (0 : Int32) ≤ 0) ∧ (0 ≤ (if Int32.ofNat 12 < Int32.ofNat 12 then Int32.ofNat 12 else Int32.ofNat 12) ∧ (0 : Int32).toNatClampNeg + (if Int32.ofNat 12 < Int32.ofNat 12 then Int32.ofNat 12 else Int32.ofNat 12).toNatClampNeg ≤ 12 ∧ (0 : Int32).toNatClampNeg + (if Int32.ofNat 12 < Int32.ofNat 12 then Int32.ofNat 12 else Int32.ofNat 12).toNatClampNeg ≤ 12) then some (none, bw_cp μ 14 4 (0 : Int32).toNatClampNeg (0 : Int32).toNatClampNeg (if Int32.ofNat 12 < Int32.ofNat 12 then Int32.ofNat 12 else Int32.ofNat 12).toNatClampNeg) else none) = _
  rw [if_pos (by decide +kernel), show (0 : Int32).toNatClampNeg = 0 by decide +kernel, show (if Int32.ofNat 12 < Int32.ofNat 12 then Int32.ofNat 12 else Int32.ofNat 12).toNatClampNeg = 12 by decide +kernel]
set_option maxRecDepth 20000 in
theorem qX2_copyAll_15_5 (d : Nat) (μ : bwM) : bw_call (d + 1) 44 [.inr (.inr 15), .inr (.inr 5)] μ = some (none, bw_cp μ 15 5 0 0 12) := by
  refine (bw_ex_go [] 12 0 _ _ _).trans ?_
  show (if ((0 : Int32) ≤ 0 ∧ (0 : Int32) ≤ 0) ∧ (0 ≤ (if Int32.ofNat 12 < Int32.ofNat 12 then Int32.ofNat 12 else Int32.ofNat 12) ∧ (0 : Int32).toNatClampNeg + (if Int32.ofNat 12 < Int32.ofNat 12 then Int32.ofNat 12 else Int32.ofNat 12).toNatClampNeg ≤ 12 ∧ (0 : Int32).toNatClampNeg + (if Int32.ofNat 12 < Int32.ofNat 12 then Int32.ofNat 12 else Int32.ofNat 12).toNatClampNeg ≤ 12) then some (none, bw_cp μ 15 5 (0 : Int32).toNatClampNeg (0 : Int32).toNatClampNeg (if Int32.ofNat 12 < Int32.ofNat 12 then Int32.ofNat 12 else Int32.ofNat 12).toNatClampNeg) else none) = _
  rw [if_pos (by decide +kernel), show (0 : Int32).toNatClampNeg = 0 by decide +kernel, show (if Int32.ofNat 12 < Int32.ofNat 12 then Int32.ofNat 12 else Int32.ofNat 12).toNatClampNeg = 12 by decide +kernel]
set_option maxRecDepth 20000 in
theorem qX2_copyAll_16_6 (d : Nat) (μ : bwM) : bw_call (d + 1) 44 [.inr (.inr 16), .inr (.inr 6)] μ = some (none, bw_cp μ 16 6 0 0 36) := by
  refine (bw_ex_go [] 12 0 _ _ _).trans ?_
  show (if ((0 : Int32) ≤ 0 ∧ (0 : Int32) ≤ 0) ∧ (0 ≤ (if Int32.ofNat 36 < Int32.ofNat 36 then Int32.ofNat 36 else Int32.ofNat 36) ∧ (0 : Int32).toNatClampNeg + (if Int32.ofNat 36 < Int32.ofNat 36 then Int32.ofNat 36 else Int32.ofNat 36).toNatClampNeg ≤ 36 ∧ (0 : Int32).toNatClampNeg + (if Int32.ofNat 36 < Int32.ofNat 36 then Int32.ofNat 36 else Int32.ofNat 36).toNatClampNeg ≤ 36) then some (none, bw_cp μ 16 6 (0 : Int32).toNatClampNeg (0 : Int32).toNatClampNeg (if Int32.ofNat 36 < Int32.ofNat 36 then Int32.ofNat 36 else Int32.ofNat 36).toNatClampNeg) else none) = _
  rw [if_pos (by decide +kernel), show (0 : Int32).toNatClampNeg = 0 by decide +kernel, show (if Int32.ofNat 36 < Int32.ofNat 36 then Int32.ofNat 36 else Int32.ofNat 36).toNatClampNeg = 36 by decide +kernel]
set_option maxRecDepth 20000 in
theorem qX2_copyAll_17_7 (d : Nat) (μ : bwM) : bw_call (d + 1) 44 [.inr (.inr 17), .inr (.inr 7)] μ = some (none, bw_cp μ 17 7 0 0 3072) := by
  refine (bw_ex_go [] 12 0 _ _ _).trans ?_
  show (if ((0 : Int32) ≤ 0 ∧ (0 : Int32) ≤ 0) ∧ (0 ≤ (if Int32.ofNat 3072 < Int32.ofNat 3072 then Int32.ofNat 3072 else Int32.ofNat 3072) ∧ (0 : Int32).toNatClampNeg + (if Int32.ofNat 3072 < Int32.ofNat 3072 then Int32.ofNat 3072 else Int32.ofNat 3072).toNatClampNeg ≤ 3072 ∧ (0 : Int32).toNatClampNeg + (if Int32.ofNat 3072 < Int32.ofNat 3072 then Int32.ofNat 3072 else Int32.ofNat 3072).toNatClampNeg ≤ 3072) then some (none, bw_cp μ 17 7 (0 : Int32).toNatClampNeg (0 : Int32).toNatClampNeg (if Int32.ofNat 3072 < Int32.ofNat 3072 then Int32.ofNat 3072 else Int32.ofNat 3072).toNatClampNeg) else none) = _
  rw [if_pos (by decide +kernel), show (0 : Int32).toNatClampNeg = 0 by decide +kernel, show (if Int32.ofNat 3072 < Int32.ofNat 3072 then Int32.ofNat 3072 else Int32.ofNat 3072).toNatClampNeg = 3072 by decide +kernel]
set_option maxRecDepth 20000 in
theorem qX2_copyAll_18_8 (d : Nat) (μ : bwM) : bw_call (d + 1) 44 [.inr (.inr 18), .inr (.inr 8)] μ = some (none, bw_cp μ 18 8 0 0 12) := by
  refine (bw_ex_go [] 12 0 _ _ _).trans ?_
  show (if ((0 : Int32) ≤ 0 ∧ (0 : Int32) ≤ 0) ∧ (0 ≤ (if Int32.ofNat 12 < Int32.ofNat 12 then Int32.ofNat 12 else Int32.ofNat 12) ∧ (0 : Int32).toNatClampNeg + (if Int32.ofNat 12 < Int32.ofNat 12 then Int32.ofNat 12 else Int32.ofNat 12).toNatClampNeg ≤ 12 ∧ (0 : Int32).toNatClampNeg + (if Int32.ofNat 12 < Int32.ofNat 12 then Int32.ofNat 12 else Int32.ofNat 12).toNatClampNeg ≤ 12) then some (none, bw_cp μ 18 8 (0 : Int32).toNatClampNeg (0 : Int32).toNatClampNeg (if Int32.ofNat 12 < Int32.ofNat 12 then Int32.ofNat 12 else Int32.ofNat 12).toNatClampNeg) else none) = _
  rw [if_pos (by decide +kernel), show (0 : Int32).toNatClampNeg = 0 by decide +kernel, show (if Int32.ofNat 12 < Int32.ofNat 12 then Int32.ofNat 12 else Int32.ofNat 12).toNatClampNeg = 12 by decide +kernel]
set_option maxRecDepth 20000 in
theorem qX2_copyAll_19_9 (d : Nat) (μ : bwM) : bw_call (d + 1) 44 [.inr (.inr 19), .inr (.inr 9)] μ = some (none, bw_cp μ 19 9 0 0 12) := by
  refine (bw_ex_go [] 12 0 _ _ _).trans ?_
  show (if ((0 : Int32) ≤ 0 ∧ (0 : Int32) ≤ 0) ∧ (0 ≤ (if Int32.ofNat 12 < Int32.ofNat 12 then Int32.ofNat 12 else Int32.ofNat 12) ∧ (0 : Int32).toNatClampNeg + (if Int32.ofNat 12 < Int32.ofNat 12 then Int32.ofNat 12 else Int32.ofNat 12).toNatClampNeg ≤ 12 ∧ (0 : Int32).toNatClampNeg + (if Int32.ofNat 12 < Int32.ofNat 12 then Int32.ofNat 12 else Int32.ofNat 12).toNatClampNeg ≤ 12) then some (none, bw_cp μ 19 9 (0 : Int32).toNatClampNeg (0 : Int32).toNatClampNeg (if Int32.ofNat 12 < Int32.ofNat 12 then Int32.ofNat 12 else Int32.ofNat 12).toNatClampNeg) else none) = _
  rw [if_pos (by decide +kernel), show (0 : Int32).toNatClampNeg = 0 by decide +kernel, show (if Int32.ofNat 12 < Int32.ofNat 12 then Int32.ofNat 12 else Int32.ofNat 12).toNatClampNeg = 12 by decide +kernel]
set_option maxRecDepth 20000 in
theorem qX2_copyAll_20_10 (d : Nat) (μ : bwM) : bw_call (d + 1) 44 [.inr (.inr 20), .inr (.inr 10)] μ = some (none, bw_cp μ 20 10 0 0 48) := by
  refine (bw_ex_go [] 12 0 _ _ _).trans ?_
  show (if ((0 : Int32) ≤ 0 ∧ (0 : Int32) ≤ 0) ∧ (0 ≤ (if Int32.ofNat 48 < Int32.ofNat 48 then Int32.ofNat 48 else Int32.ofNat 48) ∧ (0 : Int32).toNatClampNeg + (if Int32.ofNat 48 < Int32.ofNat 48 then Int32.ofNat 48 else Int32.ofNat 48).toNatClampNeg ≤ 48 ∧ (0 : Int32).toNatClampNeg + (if Int32.ofNat 48 < Int32.ofNat 48 then Int32.ofNat 48 else Int32.ofNat 48).toNatClampNeg ≤ 48) then some (none, bw_cp μ 20 10 (0 : Int32).toNatClampNeg (0 : Int32).toNatClampNeg (if Int32.ofNat 48 < Int32.ofNat 48 then Int32.ofNat 48 else Int32.ofNat 48).toNatClampNeg) else none) = _
  rw [if_pos (by decide +kernel), show (0 : Int32).toNatClampNeg = 0 by decide +kernel, show (if Int32.ofNat 48 < Int32.ofNat 48 then Int32.ofNat 48 else Int32.ofNat 48).toNatClampNeg = 48 by decide +kernel]
set_option maxRecDepth 20000 in
theorem qX2_copyAll_21_11 (d : Nat) (μ : bwM) : bw_call (d + 1) 44 [.inr (.inr 21), .inr (.inr 11)] μ = some (none, bw_cp μ 21 11 0 0 288) := by
  refine (bw_ex_go [] 12 0 _ _ _).trans ?_
  show (if ((0 : Int32) ≤ 0 ∧ (0 : Int32) ≤ 0) ∧ (0 ≤ (if Int32.ofNat 288 < Int32.ofNat 288 then Int32.ofNat 288 else Int32.ofNat 288) ∧ (0 : Int32).toNatClampNeg + (if Int32.ofNat 288 < Int32.ofNat 288 then Int32.ofNat 288 else Int32.ofNat 288).toNatClampNeg ≤ 288 ∧ (0 : Int32).toNatClampNeg + (if Int32.ofNat 288 < Int32.ofNat 288 then Int32.ofNat 288 else Int32.ofNat 288).toNatClampNeg ≤ 288) then some (none, bw_cp μ 21 11 (0 : Int32).toNatClampNeg (0 : Int32).toNatClampNeg (if Int32.ofNat 288 < Int32.ofNat 288 then Int32.ofNat 288 else Int32.ofNat 288).toNatClampNeg) else none) = _
  rw [if_pos (by decide +kernel), show (0 : Int32).toNatClampNeg = 0 by decide +kernel, show (if Int32.ofNat 288 < Int32.ofNat 288 then Int32.ofNat 288 else Int32.ofNat 288).toNatClampNeg = 288 by decide +kernel]
