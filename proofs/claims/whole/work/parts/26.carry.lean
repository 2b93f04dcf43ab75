/-! PURE: the class's Web.carryOut, act by act. -/
theorem bq_lit (k : Nat) : Int32.ofNat k = nI k := rfl
theorem sW_addParent (d : Nat) {w : Nat} (hw : w = 2 ∨ w = 12) {S : bwS} {a b : Nat} (hS : bwOK S) (hb : b < gN S) (hl : (gP S b).length < 3) (hS' : bwOK (bo_par b (gP S b ++ [a]) S)) {μ : bwM} (hR : bwC w S μ) : ∃ ν, bw_call (d + 4) 39 [.inr (.inr w), .inl (nI b), .inl (nI a)] μ = some (none, ν) ∧ bwC w (bo_par b (gP S b ++ [a]) S) ν ∧ ν.2 = μ.2 ∧ (∀ c, c < w ∨ w + 9 < c → ν.1 c = μ.1 c) := by
  have hn := ok_n hS
  have hpi : ∀ c j, ¬ (c = w + 3 ∧ j = b) → ¬ (c = w + 4 ∧ 3 * b ≤ j ∧ j < 3 * b + 3) → (bw_si (bw_si μ (w + 4) (3 * b + (gP S b).length) (nI a)) (w + 3) b (nI ((gP S b).length + 1))).1 c j = μ.1 c j := by
    intro c j h1 h2
    rw [bq_sin _ _ (by omega), bq_sin _ _ (by omega)]
  obtain ⟨ν, e1, e2, e3, e4⟩ := sW_reset d hw hb hS' hR (π := bw_si (bw_si μ (w + 4) (3 * b + (gP S b).length) (nI a)) (w + 3) b (nI ((gP S b).length + 1))) hpi (by rw [bq_sie]; simp) (fun k hk => by
    have hk' : k < (gP S b).length + 1 := by simpa using hk
    rw [bq_sin _ _ (by omega)]
    by_cases hkl : k = (gP S b).length
    · subst hkl
      rw [bq_sie]; simp
    · rw [bq_sin _ _ (by omega), ra_p hR.1 hb (by omega)]
      congr 1
      exact (List.getElem_append_left (by omega)).symm)
  refine ⟨ν, ?_, e2, e3, e4⟩
  rw [qX2_addParent _ hw]
  simp only [bq_it (show b < 12 by omega) (by decide)]
  rw [nI_clamp (by omega), ra_c hR.1 hb, if_pos (show nI _ < (3 : Int32) from nI_lt (b := 3) hl (by omega)), sB_parentSlot, bq_I, if_pos ((bq_ii (by omega)).2 (by omega)), nI_clamp (by omega), bq_sin _ _ (by omega), ra_c hR.1 hb, nI_1, e1, bq_V]
theorem sW_drop_go (d : Nat) {w : Nat} (hw : w = 2 ∨ w = 12) {x m : Nat} (hx : x < 12) (hm : m ≤ 2) (x2 : Int32) (k : Nat) (hk : k ≤ m) (μ : bwM) (hc : μ.1 (w + 3) x = nI m) : ∃ ν : bwM, eX2_dropParent (d + 1) 27 [some (.inr (.inr w)), some (.inl (nI x)), some (.inl x2), some (.inl (nI k))] [] μ = bw_bV (bw_call (d + 1) 41 [.inr (.inr w), .inl (nI x)] ν) none (fun m1 => some (none, m1)) ∧ ν.2 = μ.2 ∧ (∀ c j, ¬ (c = w + 4 ∧ 3 * x + k ≤ j ∧ j < 3 * x + m) → ν.1 c j = μ.1 c j) ∧ (∀ i, k ≤ i → i < m → ν.1 (w + 4) (3 * x + i) = μ.1 (w + 4) (3 * x + (i + 1))) := by
  induction hj : m - k generalizing k μ with
  | zero =>
    have : k = m := by omega
    subst this
    refine ⟨μ, ?_, rfl, fun _ _ _ => rfl, fun i h h' => by omega⟩
    rw [qX2_dropParent_27 _ hw, if_pos ((bq_ii (by omega)).2 (by omega)), nI_clamp (by omega), hc, if_pos (nI_le (by omega) (by omega))]
  | succ j ih =>
    obtain ⟨ν, e1, e2, e3, e4⟩ := ih (k + 1) (by omega) (bw_si μ (w + 4) (3 * x + k) (μ.1 (w + 4) (3 * x + (k + 1)))) (by rw [bq_sin _ _ (by omega)]; exact hc) (by omega)
    refine ⟨ν, ?_, e2, fun c j hcj => ?_, fun i hi hi' => ?_⟩
    · rw [qX2_dropParent_27 _ hw, if_pos ((bq_ii (by omega)).2 (by omega)), nI_clamp (by omega), hc, if_neg (nI_ge (by omega) (by omega)), sB_parentSlot, bq_I, nI_1, sB_parentSlot, bq_I, if_pos ((bq_ii (by omega)).2 (by omega)), if_pos ((bq_ii (by omega)).2 (by omega)), nI_clamp (by omega), nI_clamp (by omega)]
      exact e1
    · rw [e3 c j (by omega), bq_sin _ _ (by omega)]
    · by_cases hik : i = k
      · subst hik
        rw [e3 _ _ (by omega), bq_sie]
      · rw [e4 i (by omega) hi', bq_sin _ _ (by omega)]
theorem bp_filter_erase {l : List Nat} (hd : l.Nodup) {i : Nat} (hi : i < l.length) : l.filter (fun p => p != l[i]) = l.eraseIdx i := by
  rw [← List.Nodup.erase_eq_filter hd]
  exact List.erase_eq_eraseIdx_of_idxOf (List.Nodup.idxOf_getElem hd i hi)
theorem sW_dropParent (d : Nat) {w : Nat} (hw : w = 2 ∨ w = 12) {S : bwS} {i b : Nat} (hS : bwOK S) (hb : b < gN S) (hi : i < (gP S b).length) (hS' : bwOK (bo_par b ((gP S b).eraseIdx i) S)) {μ : bwM} (hR : bwC w S μ) : ∃ ν, bw_call (d + 4) 40 [.inr (.inr w), .inl (nI b), .inl (nI i)] μ = some (none, ν) ∧ bwC w (bo_par b ((gP S b).eraseIdx i) S) ν ∧ ν.2 = μ.2 ∧ (∀ c, c < w ∨ w + 9 < c → ν.1 c = μ.1 c) := by
  have hn := ok_n hS
  have h3 := ok_p3 hS hb
  obtain ⟨m, hm⟩ : ∃ m, (gP S b).length = m + 1 := ⟨(gP S b).length - 1, by omega⟩
  obtain ⟨π, f1, f2, f3, f4⟩ := sW_drop_go (d + 2) hw (x := b) (m := m) (by omega) (by omega) (nI i) i (by omega) (bw_si μ (w + 3) b (nI m)) (bq_sie _ _ _ _)
  have hlen : ((gP S b).eraseIdx i).length = m := by rw [List.length_eraseIdx_of_lt hi]; omega
  obtain ⟨ν, e1, e2, e3, e4⟩ := sW_reset d hw hb hS' hR (π := π) (fun c j h1 h2 => by rw [f3 _ _ (by omega), bq_sin _ _ (by omega)]) (by rw [f3 _ _ (by omega), bq_sie, hlen]) (fun k hk => by
    have hk' : k < m := by omega
    rw [List.getElem_eraseIdx]
    by_cases hki : k < i
    · rw [dif_pos hki, f3 _ _ (by omega), bq_sin _ _ (by omega), ra_p hR.1 hb (by omega)]
    · rw [dif_neg hki, f4 _ (by omega) (by omega), bq_sin _ _ (by omega), ra_p hR.1 hb (by omega)])
  refine ⟨ν, ?_, e2, e3.trans f2, e4⟩
  rw [qX2_dropParent _ hw]
  simp only [bq_it (show b < 12 by omega) (by decide)]
  rw [nI_clamp (by omega), ra_c hR.1 hb, if_neg (nI_pos (by omega)), if_pos (nI_lt hi (by omega)), hm, nI_pred, f1, e1, bq_V]
theorem sW_setOpt_go (d : Nat) {w : Nat} (hw : w = 2 ∨ w = 12) (x1 : Int32) (k : Nat) (hk : k ≤ 288) (μ : bwM) : ∃ ν : bwM, eX2_setOptions d 5 [some (.inr (.inr w)), some (.inl x1), some (.inl (nI k))] [] μ = some (none, bw_si ν w 1 x1) ∧ ν.2 = μ.2 ∧ (∀ c j, ¬ (c = w + 9 ∧ k ≤ j ∧ j < 288) → ν.1 c j = μ.1 c j) ∧ (∀ j, k ≤ j → j < 288 → ν.1 (w + 9) j = 0) := by
  induction hj : 288 - k generalizing k μ with
  | zero =>
    have : k = 288 := by omega
    subst this
    refine ⟨μ, ?_, rfl, fun _ _ _ => rfl, fun i h h' => by omega⟩
    rw [qX2_setOptions_5 _ hw, bq_lit, if_pos (nI_le (by omega) (by omega))]
  | succ j ih =>
    obtain ⟨ν, e1, e2, e3, e4⟩ := ih (k + 1) (by omega) (bw_si μ (w + 9) k 0) (by omega)
    refine ⟨ν, ?_, e2, fun c j hcj => ?_, fun i hi hi' => ?_⟩
    · rw [qX2_setOptions_5 _ hw, bq_lit, if_neg (nI_ge (by omega) (by omega)), if_pos ((bq_ii (by omega)).2 (by omega)), nI_clamp (by omega), nI_1]
      exact e1
    · rw [e3 c j (by omega), bq_sin _ _ (by omega)]
    · by_cases hik : i = k
      · subst hik
        rw [e3 _ _ (by omega), bq_sie]
      · rw [e4 i (by omega) hi']
theorem sW_setOptions (d : Nat) {w : Nat} (hw : w = 2 ∨ w = 12) {S : bwS} {n : Nat} (hS : bwOK S) (hn6 : n ≤ 6) {μ : bwM} (hR : bwC w S μ) : ∃ ν, bw_call (d + 1) 42 [.inr (.inr w), .inl (nI n)] μ = some (none, ν) ∧ bwC w (bo_options n S) ν ∧ ν.2 = μ.2 ∧ (∀ c, c < w ∨ w + 9 < c → ν.1 c = μ.1 c) := by
  have hn := ok_n hS
  obtain ⟨ν, e1, e2, e3, e4⟩ := sW_setOpt_go d hw (nI n) (n * 48) (by omega) μ
  have hU : ∀ o x v, o < 6 → x < 12 → v < 4 → (bw_si ν w 1 (nI n)).1 (w + 9) (48 * o + 4 * x + v) = if o < n then gU S o x v else 0 := by
    intro o x v ho hx hv
    rw [bq_sin _ _ (by omega)]
    by_cases hon : o < n
    · rw [if_pos hon, e3 _ _ (by omega), rc_u hR hS ho hx hv]
    · rw [if_neg hon, e4 _ (by omega) (by omega)]
  refine ⟨bw_si ν w 1 (nI n), ?_, ⟨⟨fun x hx => ?_, fun x k hk hx => ?_, fun x r v hx hr hv => ?_, fun x v hx hv => ?_, fun o x v ho hx hv => ?_⟩, ?_, bq_sie _ _ _ _, fun x hx hx' => ?_, fun o x v ho hx hv hno => ?_⟩, e2, fun c hc => ?_⟩
  · rw [qX2_setOptions _ hw, show (48 : Int32) = nI 48 from rfl, pk_mul]
    exact e1
  · rw [bq_sin _ _ (by omega), bq_sin _ _ (by omega), bq_sin _ _ (by omega), bq_sin _ _ (by omega), bq_sin _ _ (by omega), e3 _ _ (by omega), e3 _ _ (by omega), e3 _ _ (by omega), e3 _ _ (by omega), e3 _ _ (by omega)]
    exact hR.1.1 x hx
  · rw [bq_sin _ _ (by omega), e3 _ _ (by omega)]
    exact hR.1.2.1 x k hk hx
  · rw [bq_sin _ _ (by omega), e3 _ _ (by omega)]
    exact hR.1.2.2.1 x r v hx hr hv
  · rw [bq_sin _ _ (by omega), e3 _ _ (by omega)]
    exact hR.1.2.2.2.1 x v hx hv
  · have ho' : o < n := ho
    have hx' : x < gN S := hx
    have hv' : v < gV S x := hv
    have := ok_v4 hS hx'
    exact hU o x v (by omega) (by omega) (by omega)
  · rw [bq_sin _ _ (by omega), e3 _ _ (by omega)]
    exact (show μ.1 w 0 = nI (gN S) from rc_n hR)
  · rw [bq_sin _ _ (by omega), e3 _ _ (by omega)]
    exact hR.2.2.2.1 x hx hx'
  · rw [hU o x v ho hx hv]
    by_cases hon : o < n
    · rw [if_pos hon]
      exact ok_u0 hS (fun h => hno ⟨hon, h.2.1, h.2.2⟩)
    · rw [if_neg hon]
  · funext j
    rw [bq_sin _ _ (by omega), e3 _ _ (by omega)]

theorem sW_carry_3 {w : Nat} {S : bwS} {x : Nat} {o : Option Nat} (hS : bwOK S) (hx : x < gN S) {μ : bwM} (hR : bwC w S μ) (p q : Option Nat) (c1 c2 : Nat) (hc : c1 = w + 6 ∧ c2 = w + 7 ∧ p = o ∧ q = none ∨ c1 = w + 7 ∧ c2 = w + 6 ∧ p = none ∧ q = o) : bwC w (bo_known x p q S) (bw_si (bw_si μ c1 x (bo_I o)) c2 x (-1)) := by
  have hn := ok_n hS
  refine ⟨⟨fun y hy => ?_, fun y k hk hy => ?_, fun y r v hy hr hv => ?_, fun y v hy hv => ?_, fun o' y v ho hy hv => ?_⟩, ?_, ?_, fun y hy hy' => ?_, fun o' y v ho hy hv hno => ?_⟩
  · have h0 := hR.1.1 y hy
    rw [bq_sin (o' := w + 1) _ _ (by omega), bq_sin (o' := w + 1) _ _ (by omega), bq_sin (o' := w + 2) _ _ (by omega), bq_sin (o' := w + 2) _ _ (by omega), bq_sin (o' := w + 3) _ _ (by omega), bq_sin (o' := w + 3) _ _ (by omega)]
    refine ⟨h0.1, h0.2.1, h0.2.2.1, ?_⟩
    show _ = bo_I (bp_up (gS S) x p y) ∧ _ = bo_I (bp_up (gD S) x q y)
    by_cases hyx : y = x
    · subst hyx
      rw [bp_up_eq, bp_up_eq]
      rcases hc with ⟨rfl, rfl, rfl, rfl⟩ | ⟨rfl, rfl, rfl, rfl⟩
      · exact ⟨by rw [bq_sin _ _ (by omega), bq_sie], by rw [bq_sie]; rfl⟩
      · exact ⟨by rw [bq_sie]; rfl, by rw [bq_sin _ _ (by omega), bq_sie]⟩
    · rw [bp_up_ne _ hyx, bp_up_ne _ hyx, bq_sin _ _ (by omega), bq_sin _ _ (by omega), bq_sin _ _ (by omega), bq_sin _ _ (by omega)]
      exact h0.2.2.2
  · rw [bq_sin _ _ (by omega), bq_sin _ _ (by omega)]
    exact hR.1.2.1 y k hk hy
  · rw [bq_sin _ _ (by omega), bq_sin _ _ (by omega)]
    exact hR.1.2.2.1 y r v hy hr hv
  · rw [bq_sin _ _ (by omega), bq_sin _ _ (by omega)]
    exact hR.1.2.2.2.1 y v hy hv
  · rw [bq_sin _ _ (by omega), bq_sin _ _ (by omega)]
    exact hR.1.2.2.2.2 o' y v ho hy hv
  · rw [bq_sin _ _ (by omega), bq_sin _ _ (by omega)]
    exact hR.2.1
  · rw [bq_sin _ _ (by omega), bq_sin _ _ (by omega)]
    exact hR.2.2.1
  · rw [bq_sin _ _ (by omega), bq_sin _ _ (by omega)]
    exact hR.2.2.2.1 y hy hy'
  · rw [bq_sin _ _ (by omega), bq_sin _ _ (by omega)]
    exact hR.2.2.2.2 o' y v ho hy hv hno
theorem sW_carry_2 {w : Nat} {S : bwS} {x r v k : Nat} (hS : bwOK S) (hx : x < gN S) (hr : r < g_rows S x) (hv : v < gV S x) {μ : bwM} (hR : bwC w S μ) : bwC w (bo_weight x r v k S) (bw_si μ (w + 5) (256 * x + 4 * r + v) (nI k)) := by
  have h4 := ok_v4 hS hx
  have h64 := (g_rows_pos hS hx).2
  refine ⟨⟨fun y hy => ?_, fun y i hi hy => ?_, fun y q u hy hq hu => ?_, fun y u hy hu => ?_, fun o y u ho hy hu => ?_⟩, ?_, ?_, fun y hy hy' => ?_, fun o y u ho hy hu hno => ?_⟩
  · rw [bq_sin _ _ (by omega), bq_sin _ _ (by omega), bq_sin _ _ (by omega), bq_sin _ _ (by omega), bq_sin _ _ (by omega)]
    exact hR.1.1 y hy
  · rw [bq_sin _ _ (by omega)]
    exact hR.1.2.1 y i hi hy
  · have hy4 : gV S y ≤ 4 := ok_v4 hS hy
    have hy64 : g_rows S y ≤ 64 := (g_rows_pos hS hy).2
    have hq' : q < g_rows S y := hq
    have hu' : u < gV S y := hu
    show _ = nI (bp_up (gW S) x (bp_up (gW S x) r (bp_up (gW S x r) v k)) y q u)
    by_cases hyx : y = x
    · subst hyx
      rw [bp_up_eq]
      by_cases hqr : q = r
      · subst hqr
        rw [bp_up_eq]
        by_cases huv : u = v
        · subst huv
          rw [bp_up_eq, bq_sie]
        · rw [bp_up_ne _ huv, bq_sin _ _ (by omega), ra_w hR.1 hy hq hu]
      · rw [bp_up_ne _ hqr, bq_sin _ _ (by omega), ra_w hR.1 hy hq hu]
    · rw [bp_up_ne _ hyx, bq_sin _ _ (by omega), ra_w hR.1 hy hq hu]
  · rw [bq_sin _ _ (by omega)]
    exact hR.1.2.2.2.1 y u hy hu
  · rw [bq_sin _ _ (by omega)]
    exact hR.1.2.2.2.2 o y u ho hy hu
  · rw [bq_sin _ _ (by omega)]
    exact hR.2.1
  · rw [bq_sin _ _ (by omega)]
    exact hR.2.2.1
  · rw [bq_sin _ _ (by omega)]
    exact hR.2.2.2.1 y hy hy'
  · rw [bq_sin _ _ (by omega)]
    exact hR.2.2.2.2 o y u ho hy hu hno
theorem sW_carry_5 {w : Nat} {S : bwS} {x v k : Nat} (hS : bwOK S) (hx : x < gN S) (hv : v < gV S x) {μ : bwM} (hR : bwC w S μ) : bwC w (bo_force x v k S) (bw_si μ (w + 8) (4 * x + v) (nI k)) := by
  have h4 := ok_v4 hS hx
  refine ⟨⟨fun y hy => ?_, fun y i hi hy => ?_, fun y q u hy hq hu => ?_, fun y u hy hu => ?_, fun o y u ho hy hu => ?_⟩, ?_, ?_, fun y hy hy' => ?_, fun o y u ho hy hu hno => ?_⟩
  · rw [bq_sin _ _ (by omega), bq_sin _ _ (by omega), bq_sin _ _ (by omega), bq_sin _ _ (by omega), bq_sin _ _ (by omega)]
    exact hR.1.1 y hy
  · rw [bq_sin _ _ (by omega)]
    exact hR.1.2.1 y i hi hy
  · rw [bq_sin _ _ (by omega)]
    exact hR.1.2.2.1 y q u hy hq hu
  · have hy4 : gV S y ≤ 4 := ok_v4 hS hy
    have hu' : u < gV S y := hu
    show _ = nI (bp_up (gF S) x (bp_up (gF S x) v k) y u)
    by_cases hyx : y = x
    · subst hyx
      rw [bp_up_eq]
      by_cases huv : u = v
      · subst huv
        rw [bp_up_eq, bq_sie]
      · rw [bp_up_ne _ huv, bq_sin _ _ (by omega), ra_f hR.1 hy hu]
    · rw [bp_up_ne _ hyx, bq_sin _ _ (by omega), ra_f hR.1 hy hu]
  · rw [bq_sin _ _ (by omega)]
    exact hR.1.2.2.2.2 o y u ho hy hu
  · rw [bq_sin _ _ (by omega)]
    exact hR.2.1
  · rw [bq_sin _ _ (by omega)]
    exact hR.2.2.1
  · rw [bq_sin _ _ (by omega)]
    exact hR.2.2.2.1 y hy hy'
  · rw [bq_sin _ _ (by omega)]
    exact hR.2.2.2.2 o y u ho hy hu hno
theorem sW_carry_7 {w : Nat} {S : bwS} {o x v : Nat} {k : Int32} (hS : bwOK S) (ho : o < gO S) (hx : x < gN S) (hv : v < gV S x) {μ : bwM} (hR : bwC w S μ) : bwC w (bo_worth o x v k S) (bw_si μ (w + 9) (48 * o + 4 * x + v) k) := by
  have h4 := ok_v4 hS hx
  have hn := ok_n hS
  refine ⟨⟨fun y hy => ?_, fun y i hi hy => ?_, fun y q u hy hq hu => ?_, fun y u hy hu => ?_, fun p y u hp hy hu => ?_⟩, ?_, ?_, fun y hy hy' => ?_, fun p y u hp hy hu hno => ?_⟩
  · rw [bq_sin _ _ (by omega), bq_sin _ _ (by omega), bq_sin _ _ (by omega), bq_sin _ _ (by omega), bq_sin _ _ (by omega)]
    exact hR.1.1 y hy
  · rw [bq_sin _ _ (by omega)]
    exact hR.1.2.1 y i hi hy
  · rw [bq_sin _ _ (by omega)]
    exact hR.1.2.2.1 y q u hy hq hu
  · rw [bq_sin _ _ (by omega)]
    exact hR.1.2.2.2.1 y u hy hu
  · have hy4 : gV S y ≤ 4 := ok_v4 hS hy
    have hu' : u < gV S y := hu
    have hyn : y < gN S := hy
    show _ = bp_up (gU S) o (bp_up (gU S o) x (bp_up (gU S o x) v k)) p y u
    by_cases hpo : p = o
    · subst hpo
      rw [bp_up_eq]
      by_cases hyx : y = x
      · subst hyx
        rw [bp_up_eq]
        by_cases huv : u = v
        · subst huv
          rw [bp_up_eq, bq_sie]
        · rw [bp_up_ne _ huv, bq_sin _ _ (by omega), ra_u hR.1 hp hy hu]
      · rw [bp_up_ne _ hyx, bq_sin _ _ (by omega), ra_u hR.1 hp hy hu]
    · rw [bp_up_ne _ hpo, bq_sin _ _ (by omega), ra_u hR.1 hp hy hu]
  · rw [bq_sin _ _ (by omega)]
    exact hR.2.1
  · rw [bq_sin _ _ (by omega)]
    exact hR.2.2.1
  · rw [bq_sin _ _ (by omega)]
    exact hR.2.2.2.1 y hy hy'
  · have hno' : ¬ (p < gO S ∧ y < gN S ∧ u < gV S y) := hno
    rw [bq_sin _ _ (fun h => hno' (by
      have h1 : p = o := by omega
      have h2 : y = x := by omega
      have h3 : u = v := by omega
      subst h1; subst h2; subst h3
      exact ⟨ho, hx, hv⟩))]
    exact hR.2.2.2.2 p y u hp hy hu hno
/-- Web.carryOut -/
theorem sW_carry (d : Nat) {w : Nat} (hw : w = 2 ∨ w = 12) {S S' : bwS} {op : Int32 × Int32 × Int32 × Int32 × Int32} (hS : bwOK S) (hS' : bwOK S') (ha : bw_act op S S') {μ : bwM} (hR : bwC w S μ) : ∃ ν, bw_call (d + 5) 38 [.inr (.inr w), .inl op.1, .inl op.2.1, .inl op.2.2.1, .inl op.2.2.2.1, .inl op.2.2.2.2] μ = some (none, ν) ∧ bwC w S' ν ∧ ν.2 = μ.2 ∧ (∀ c, c < w ∨ w + 9 < c → ν.1 c = μ.1 c) := by
  have hn := ok_n hS
  have hno := ok_o hS
  rw [qX2_carryOut _ hw]
  rcases ha with ⟨a, b, rfl, h1, h2, h3, h4, rfl⟩ | ⟨a, b, rfl, h1, h2, rfl⟩ | ⟨x, r, v, k, rfl, h1, h2, h3, h4, rfl⟩ | ⟨x, o, rfl, h1, h2, rfl⟩ | ⟨x, o, rfl, h1, h2, rfl⟩ | ⟨x, v, f, rfl, h1, h2, h3, rfl⟩ | ⟨n, rfl, h1, rfl⟩ | ⟨o, x, v, u, rfl, h1, h2, h3, h4, h5, rfl⟩ <;> dsimp only
  · obtain ⟨ν, e1, e2⟩ := sW_addParent d hw hS h2 h3 hS' hR
    exact ⟨ν, by rw [if_pos rfl, e1, bq_V], e2⟩
  · obtain ⟨i, hi, rfl⟩ := List.getElem_of_mem h2
    rw [bp_filter_erase (ok_pd hS h1) hi] at hS' ⊢
    obtain ⟨ν, e1, e2⟩ := sW_dropParent d hw hS h1 hi hS' hR
    refine ⟨ν, ?_, e2⟩
    rw [if_neg (by decide), if_pos rfl, sW_pp _ hw hS hR h1 hi, bq_I, e1, bq_V]
  · have hv4 := ok_v4 hS h1
    have h64 := (g_rows_pos hS h1).2
    refine ⟨_, ?_, sW_carry_2 hS h1 h2 h3 hR, rfl, fun c hc => ?_⟩
    · rw [if_neg (by decide), if_neg (by decide), if_pos rfl, sB_weightSlot, bq_I, if_pos ((bq_ii (by omega)).2 (by omega)), nI_clamp (by omega)]
    · funext j; exact bq_sin _ _ (by omega)
  · refine ⟨_, ?_, sW_carry_3 hS h1 hR o none (w + 6) (w + 7) (Or.inl ⟨rfl, rfl, rfl, rfl⟩), rfl, fun c hc => ?_⟩
    · rw [if_neg (by decide), if_neg (by decide), if_neg (by decide), if_pos rfl]
      simp only [bq_it (show x < 12 by omega) (by decide)]
      rw [nI_clamp (by omega)]
    · funext j; rw [bq_sin _ _ (by omega), bq_sin _ _ (by omega)]
  · refine ⟨_, ?_, sW_carry_3 hS h1 hR none o (w + 7) (w + 6) (Or.inr ⟨rfl, rfl, rfl, rfl⟩), rfl, fun c hc => ?_⟩
    · rw [if_neg (by decide), if_neg (by decide), if_neg (by decide), if_neg (by decide), if_pos rfl]
      simp only [bq_it (show x < 12 by omega) (by decide)]
      rw [nI_clamp (by omega)]
    · funext j; rw [bq_sin _ _ (by omega), bq_sin _ _ (by omega)]
  · have hv4 := ok_v4 hS h1
    refine ⟨_, ?_, sW_carry_5 hS h1 h2 hR, rfl, fun c hc => ?_⟩
    · rw [if_neg (by decide), if_neg (by decide), if_neg (by decide), if_neg (by decide), if_neg (by decide), if_pos rfl, sB_slot, bq_I, if_pos ((bq_ii (by omega)).2 (by omega)), nI_clamp (by omega)]
    · funext j; exact bq_sin _ _ (by omega)
  · obtain ⟨ν, e1, e2⟩ := sW_setOptions (d + 3) hw hS h1 hR
    exact ⟨ν, by rw [if_neg (by decide), if_neg (by decide), if_neg (by decide), if_neg (by decide), if_neg (by decide), if_neg (by decide), if_pos rfl, e1, bq_V], e2⟩
  · have hv4 := ok_v4 hS h2
    refine ⟨_, ?_, sW_carry_7 hS h1 h2 h3 hR, rfl, fun c hc => ?_⟩
    · rw [if_neg (by decide), if_neg (by decide), if_neg (by decide), if_neg (by decide), if_neg (by decide), if_neg (by decide), if_neg (by decide), if_pos rfl, sB_worthSlot, bq_I, if_pos ((bq_ii (by omega)).2 (by omega)), nI_clamp (by omega)]
    · funext j; exact bq_sin _ _ (by omega)
