/-! PURE: copies of a Web, the class's History. -/
theorem bq_cpe (μ : bwM) {a b n j : Nat} (h : j < n) : (bw_cp μ a b 0 0 n).1 b j = μ.1 a j := by
  show (if b = b ∧ (0 ≤ j ∧ j < 0 + n) then μ.1 a (0 + (j - 0)) else μ.1 b j) = _
  rw [if_pos ⟨rfl, by omega, by omega⟩, Nat.sub_zero, Nat.zero_add]
theorem bq_cpn (μ : bwM) {a b n c j : Nat} (h : ¬ (c = b ∧ j < n)) : (bw_cp μ a b 0 0 n).1 c j = μ.1 c j := by
  show (if c = b ∧ (0 ≤ j ∧ j < 0 + n) then μ.1 a (0 + (j - 0)) else μ.1 c j) = _
  rw [if_neg (by omega)]
theorem bq_cp2 (μ : bwM) (a b s t n : Nat) : (bw_cp μ a b s t n).2 = μ.2 := rfl
theorem bwC_copy {w u : Nat} {S : bwS} {μ ν : bwM} (hS : bwOK S) (hR : bwC u S μ) (h0 : ν.1 w 0 = μ.1 u 0) (h1 : ν.1 w 1 = μ.1 u 1) (k1 : ∀ j, j < 12 → ν.1 (w + 1) j = μ.1 (u + 1) j) (k2 : ∀ j, j < 12 → ν.1 (w + 2) j = μ.1 (u + 2) j) (k3 : ∀ j, j < 12 → ν.1 (w + 3) j = μ.1 (u + 3) j) (k4 : ∀ j, j < 36 → ν.1 (w + 4) j = μ.1 (u + 4) j) (k5 : ∀ j, j < 3072 → ν.1 (w + 5) j = μ.1 (u + 5) j) (k6 : ∀ j, j < 12 → ν.1 (w + 6) j = μ.1 (u + 6) j) (k7 : ∀ j, j < 12 → ν.1 (w + 7) j = μ.1 (u + 7) j) (k8 : ∀ j, j < 48 → ν.1 (w + 8) j = μ.1 (u + 8) j) (k9 : ∀ j, j < 288 → ν.1 (w + 9) j = μ.1 (u + 9) j) : bwC w S ν := by
  have hn := ok_n hS
  have hno := ok_o hS
  refine ⟨⟨fun y hy => ?_, fun y i hi hy => ?_, fun y q v hy hq hv => ?_, fun y v hy hv => ?_, fun p y v hp hy hv => ?_⟩, h0.trans hR.2.1, h1.trans hR.2.2.1, fun y hy hy' => ?_, fun p y v hp hy hv hno => ?_⟩
  · rw [k1 _ (by omega), k2 _ (by omega), k3 _ (by omega), k6 _ (by omega), k7 _ (by omega)]
    exact hR.1.1 y hy
  · have := ok_p3 hS hy
    rw [k4 _ (by omega)]
    exact hR.1.2.1 y i hi hy
  · have := ok_v4 hS hy
    have := (g_rows_pos hS hy).2
    rw [k5 _ (by omega)]
    exact hR.1.2.2.1 y q v hy hq hv
  · have := ok_v4 hS hy
    rw [k8 _ (by omega)]
    exact hR.1.2.2.2.1 y v hy hv
  · have := ok_v4 hS hy
    rw [k9 _ (by omega)]
    exact hR.1.2.2.2.2 p y v hp hy hv
  · rw [k3 _ (by omega)]
    exact hR.2.2.2.1 y hy hy'
  · rw [k9 _ (by omega)]
    exact hR.2.2.2.2 p y v hp hy hv hno
def bw_cpw (w u : Nat) (μ : bwM) : bwM := bw_cp (bw_cp (bw_cp (bw_cp (bw_cp (bw_cp (bw_cp (bw_cp (bw_cp (bw_si (bw_si μ w 0 (μ.1 u 0)) w 1 (μ.1 u 1)) (u + 1) (w + 1) 0 0 12) (u + 2) (w + 2) 0 0 12) (u + 3) (w + 3) 0 0 12) (u + 4) (w + 4) 0 0 36) (u + 5) (w + 5) 0 0 3072) (u + 6) (w + 6) 0 0 12) (u + 7) (w + 7) 0 0 12) (u + 8) (w + 8) 0 0 48) (u + 9) (w + 9) 0 0 288
theorem bw_cpw_1 {w u : Nat} (hd : w + 9 < u ∨ u + 9 < w) (μ : bwM) (j : Nat) (h : j < 12) : (bw_cpw w u μ).1 (w + 1) j = μ.1 (u + 1) j := by
  unfold bw_cpw
  rw [bq_cpn _ (by omega), bq_cpn _ (by omega), bq_cpn _ (by omega), bq_cpn _ (by omega), bq_cpn _ (by omega), bq_cpn _ (by omega), bq_cpn _ (by omega), bq_cpn _ (by omega), bq_cpe _ h, bq_sin _ _ (by omega), bq_sin _ _ (by omega)]
theorem bw_cpw_2 {w u : Nat} (hd : w + 9 < u ∨ u + 9 < w) (μ : bwM) (j : Nat) (h : j < 12) : (bw_cpw w u μ).1 (w + 2) j = μ.1 (u + 2) j := by
  unfold bw_cpw
  rw [bq_cpn _ (by omega), bq_cpn _ (by omega), bq_cpn _ (by omega), bq_cpn _ (by omega), bq_cpn _ (by omega), bq_cpn _ (by omega), bq_cpn _ (by omega), bq_cpe _ h, bq_cpn _ (by omega), bq_sin _ _ (by omega), bq_sin _ _ (by omega)]
theorem bw_cpw_3 {w u : Nat} (hd : w + 9 < u ∨ u + 9 < w) (μ : bwM) (j : Nat) (h : j < 12) : (bw_cpw w u μ).1 (w + 3) j = μ.1 (u + 3) j := by
  unfold bw_cpw
  rw [bq_cpn _ (by omega), bq_cpn _ (by omega), bq_cpn _ (by omega), bq_cpn _ (by omega), bq_cpn _ (by omega), bq_cpn _ (by omega), bq_cpe _ h, bq_cpn _ (by omega), bq_cpn _ (by omega), bq_sin _ _ (by omega), bq_sin _ _ (by omega)]
theorem bw_cpw_4 {w u : Nat} (hd : w + 9 < u ∨ u + 9 < w) (μ : bwM) (j : Nat) (h : j < 36) : (bw_cpw w u μ).1 (w + 4) j = μ.1 (u + 4) j := by
  unfold bw_cpw
  rw [bq_cpn _ (by omega), bq_cpn _ (by omega), bq_cpn _ (by omega), bq_cpn _ (by omega), bq_cpn _ (by omega), bq_cpe _ h, bq_cpn _ (by omega), bq_cpn _ (by omega), bq_cpn _ (by omega), bq_sin _ _ (by omega), bq_sin _ _ (by omega)]
theorem bw_cpw_5 {w u : Nat} (hd : w + 9 < u ∨ u + 9 < w) (μ : bwM) (j : Nat) (h : j < 3072) : (bw_cpw w u μ).1 (w + 5) j = μ.1 (u + 5) j := by
  unfold bw_cpw
  rw [bq_cpn _ (by omega), bq_cpn _ (by omega), bq_cpn _ (by omega), bq_cpn _ (by omega), bq_cpe _ h, bq_cpn _ (by omega), bq_cpn _ (by omega), bq_cpn _ (by omega), bq_cpn _ (by omega), bq_sin _ _ (by omega), bq_sin _ _ (by omega)]
theorem bw_cpw_6 {w u : Nat} (hd : w + 9 < u ∨ u + 9 < w) (μ : bwM) (j : Nat) (h : j < 12) : (bw_cpw w u μ).1 (w + 6) j = μ.1 (u + 6) j := by
  unfold bw_cpw
  rw [bq_cpn _ (by omega), bq_cpn _ (by omega), bq_cpn _ (by omega), bq_cpe _ h, bq_cpn _ (by omega), bq_cpn _ (by omega), bq_cpn _ (by omega), bq_cpn _ (by omega), bq_cpn _ (by omega), bq_sin _ _ (by omega), bq_sin _ _ (by omega)]
theorem bw_cpw_7 {w u : Nat} (hd : w + 9 < u ∨ u + 9 < w) (μ : bwM) (j : Nat) (h : j < 12) : (bw_cpw w u μ).1 (w + 7) j = μ.1 (u + 7) j := by
  unfold bw_cpw
  rw [bq_cpn _ (by omega), bq_cpn _ (by omega), bq_cpe _ h, bq_cpn _ (by omega), bq_cpn _ (by omega), bq_cpn _ (by omega), bq_cpn _ (by omega), bq_cpn _ (by omega), bq_cpn _ (by omega), bq_sin _ _ (by omega), bq_sin _ _ (by omega)]
theorem bw_cpw_8 {w u : Nat} (hd : w + 9 < u ∨ u + 9 < w) (μ : bwM) (j : Nat) (h : j < 48) : (bw_cpw w u μ).1 (w + 8) j = μ.1 (u + 8) j := by
  unfold bw_cpw
  rw [bq_cpn _ (by omega), bq_cpe _ h, bq_cpn _ (by omega), bq_cpn _ (by omega), bq_cpn _ (by omega), bq_cpn _ (by omega), bq_cpn _ (by omega), bq_cpn _ (by omega), bq_cpn _ (by omega), bq_sin _ _ (by omega), bq_sin _ _ (by omega)]
theorem bw_cpw_9 {w u : Nat} (hd : w + 9 < u ∨ u + 9 < w) (μ : bwM) (j : Nat) (h : j < 288) : (bw_cpw w u μ).1 (w + 9) j = μ.1 (u + 9) j := by
  unfold bw_cpw
  rw [bq_cpe _ h, bq_cpn _ (by omega), bq_cpn _ (by omega), bq_cpn _ (by omega), bq_cpn _ (by omega), bq_cpn _ (by omega), bq_cpn _ (by omega), bq_cpn _ (by omega), bq_cpn _ (by omega), bq_sin _ _ (by omega), bq_sin _ _ (by omega)]
theorem bw_cpw_0 {w u : Nat} (μ : bwM) : (bw_cpw w u μ).1 w 0 = μ.1 u 0 := by
  unfold bw_cpw
  rw [bq_cpn _ (by omega), bq_cpn _ (by omega), bq_cpn _ (by omega), bq_cpn _ (by omega), bq_cpn _ (by omega), bq_cpn _ (by omega), bq_cpn _ (by omega), bq_cpn _ (by omega), bq_cpn _ (by omega), bq_sin _ _ (by omega), bq_sie]
theorem bw_cpw_o {w u : Nat} (μ : bwM) : (bw_cpw w u μ).1 w 1 = μ.1 u 1 := by
  unfold bw_cpw
  rw [bq_cpn _ (by omega), bq_cpn _ (by omega), bq_cpn _ (by omega), bq_cpn _ (by omega), bq_cpn _ (by omega), bq_cpn _ (by omega), bq_cpn _ (by omega), bq_cpn _ (by omega), bq_cpn _ (by omega), bq_sie]
theorem bw_cpw_f {w u : Nat} (μ : bwM) {c : Nat} (hc : c < w ∨ w + 9 < c) : (bw_cpw w u μ).1 c = μ.1 c := by
  unfold bw_cpw
  funext j
  rw [bq_cpn _ (by omega), bq_cpn _ (by omega), bq_cpn _ (by omega), bq_cpn _ (by omega), bq_cpn _ (by omega), bq_cpn _ (by omega), bq_cpn _ (by omega), bq_cpn _ (by omega), bq_cpn _ (by omega), bq_sin _ _ (by omega), bq_sin _ _ (by omega)]
theorem sW_copy (d : Nat) {w u : Nat} (hw : w = 2 ∧ u = 12 ∨ w = 12 ∧ u = 2) {S : bwS} {μ : bwM} (hS : bwOK S) (hR : bwC u S μ) : bw_call (d + 2) 43 [.inr (.inr w), .inr (.inr u)] μ = some (none, bw_cpw w u μ) ∧ bwC w S (bw_cpw w u μ) ∧ (bw_cpw w u μ).2 = μ.2 ∧ (∀ c, c < w ∨ w + 9 < c → (bw_cpw w u μ).1 c = μ.1 c) := by
  have hd : w + 9 < u ∨ u + 9 < w := by omega
  refine ⟨?_, bwC_copy hS hR (bw_cpw_0 μ) (bw_cpw_o μ) (bw_cpw_1 hd μ) (bw_cpw_2 hd μ) (bw_cpw_3 hd μ) (bw_cpw_4 hd μ) (bw_cpw_5 hd μ) (bw_cpw_6 hd μ) (bw_cpw_7 hd μ) (bw_cpw_8 hd μ) (bw_cpw_9 hd μ), rfl, fun c hc => bw_cpw_f μ hc⟩
  rw [qX2_copyFrom _ hw, bq_sin (o' := u) _ _ (by omega)]
  rcases hw with ⟨rfl, rfl⟩ | ⟨rfl, rfl⟩
  · rw [qX2_copyAll_13_3, bq_V, qX2_copyAll_14_4, bq_V, qX2_copyAll_15_5, bq_V, qX2_copyAll_16_6, bq_V, qX2_copyAll_17_7, bq_V, qX2_copyAll_18_8, bq_V, qX2_copyAll_19_9, bq_V, qX2_copyAll_20_10, bq_V, qX2_copyAll_21_11, bq_V]
    rfl
  · rw [qX2_copyAll_3_13, bq_V, qX2_copyAll_4_14, bq_V, qX2_copyAll_5_15, bq_V, qX2_copyAll_6_16, bq_V, qX2_copyAll_7_17, bq_V, qX2_copyAll_8_18, bq_V, qX2_copyAll_9_19, bq_V, qX2_copyAll_10_20, bq_V, qX2_copyAll_11_21, bq_V]
    rfl
