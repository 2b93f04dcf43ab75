/-! PURE: arrows, cuts and options of the reference. -/
theorem sM_reset (d : Nat) {S : bwS} {b : Nat} {l : List Nat} (hb : b < gN S) (hS' : bwOK (bo_par b l S)) {μ π : bwM} (hR : bwR' S μ) (hf : ∀ c j, ¬ (c = 33 ∧ j = b) → ¬ (c = 34 ∧ 3 * b ≤ j ∧ j < 3 * b + 3) → π.1 c j = μ.1 c j) (hc : π.1 33 b = nI l.length) (hp : ∀ k (h : k < l.length), π.1 34 (3 * b + k) = nI l[k]) : ∃ ν, bw_call (d + 1) 89 [.inr (.inr 30), .inl (nI b)] π = some (none, ν) ∧ bwR' (bo_par b l S) ν ∧ ν.2 = π.2 ∧ (∀ c, c ≠ 35 → ν.1 c = π.1 c) := by
  have hn : gN S ≤ 12 := (show gN (bo_par b l S) ≤ 12 from ok_n hS')
  have hb' : b < gN (bo_par b l S) := hb
  have hl : gP (bo_par b l S) b = l := bp_up_eq _ _ _
  have h3 := ok_p3 hS' hb'
  rw [hl] at h3
  have hV : gV S b ≤ 4 := ok_v4 hS' hb'
  have hRR := (g_rows_pos hS' hb').2
  obtain ⟨ν, e1, e2, e3, e4⟩ := sM_plain d (x := b) (T := gT S b) (by omega) π (by rw [hf _ _ (by omega) (by omega)]; exact rm_t hR hb)
  refine ⟨ν, e1, ⟨⟨fun x hx => ?_, fun x k hk hx => ?_, fun x r v hx hr hv => ?_, fun x v hx hv => ?_, fun o x v ho hx hv => ?_⟩, ?_, ?_⟩, e2, fun c hc' => ?_⟩
  · have hx' : x < gN S := hx
    rw [e3 _ _ (by omega), e3 _ _ (by omega), e3 _ _ (by omega), e3 _ _ (by omega), e3 _ _ (by omega), hf _ _ (by omega) (by omega), hf _ _ (by omega) (by omega), hf (30 + 6) _ (by omega) (by omega), hf (30 + 7) _ (by omega) (by omega)]
    refine ⟨ra_v hR.1 hx', ra_t hR.1 hx', ?_, ra_s hR.1 hx', ra_d hR.1 hx'⟩
    by_cases hxb : x = b
    · rw [hxb, hl]; exact hc
    · rw [hf _ _ (by omega) (by omega)]
      show _ = nI (bp_up (gP S) b l x).length
      rw [bp_up_ne _ hxb]
      exact ra_c hR.1 hx'
  · have hx' : x < gN S := hx
    rw [e3 _ _ (by omega)]
    by_cases hxb : x = b
    · subst hxb
      have hk' : k < l.length := by rw [hl] at hk; exact hk
      refine (hp k hk').trans ?_
      congr 1
      simp only [hl]
    · have hpx : gP (bo_par b l S) x = gP S x := bp_up_ne _ hxb _
      have hk' : k < (gP S x).length := by rw [hpx] at hk; exact hk
      have hk3 : (gP S x).length ≤ 3 := by rw [← hpx]; exact ok_p3 hS' hx
      rw [hf _ _ (by omega) (by omega), ra_p hR.1 hx' hk']
      congr 1
      simp only [hpx]
  · have hx' : x < gN S := hx
    by_cases hxb : x = b
    · subst hxb
      have hv' : v < gV S x := hv
      refine (e4 r v (by omega) (by omega)).trans ?_
      show _ = nI (bp_up (gW S) x _ x r v)
      rw [bp_up_eq]
      by_cases hv0 : v = 0
      · rw [if_pos hv0, if_pos hv0]
      · rw [if_neg hv0, if_neg hv0]; rfl
    · have hpx : gP (bo_par b l S) x = gP S x := bp_up_ne _ hxb _
      have hgr : g_rows (bo_par b l S) x = g_rows S x := by unfold g_rows; rw [hpx]; rfl
      have h64 := (g_rows_pos hS' hx).2
      have hv4 : gV S x ≤ 4 := ok_v4 hS' hx
      have hv' : v < gV S x := hv
      rw [hgr] at hr h64
      rw [e3 _ _ (by omega), hf _ _ (by omega) (by omega), ra_w hR.1 hx' hr hv]
      show _ = nI (bp_up (gW S) b _ x r v)
      rw [bp_up_ne _ hxb]
  · rw [e3 _ _ (by omega), hf _ _ (by omega) (by omega)]
    exact ra_f hR.1 hx hv
  · rw [e3 _ _ (by omega), hf _ _ (by omega) (by omega)]
    exact ra_u hR.1 ho hx hv
  · rw [e3 _ _ (by omega), hf _ _ (by omega) (by omega)]
    exact (show μ.1 30 1 = nI (gN S) from rr_n hR)
  · rw [e3 _ _ (by omega), hf _ _ (by omega) (by omega)]
    exact (show μ.1 30 10 = nI (gO S) from rr_o hR)
  · funext j
    exact e3 _ _ (by omega)
/-- the entry that a note of arrows leaves -/
theorem lg_par {S : bwS} {k b : Nat} {l : List Nat} {μ ν π : bwM} (hS : bwOK S) (hR : bwR' S μ) (hb : b < gN S) (hn : bw_nt k 1 (nI b) μ ν) (h50 : ν.1 50 (bh_a k) = μ.1 33 b) (hr : ∀ i, i < 256 → ν.1 52 (300 * bh_a k + i) = μ.1 35 (256 * b + i)) (hp : ∀ i, i < 3 → ν.1 52 (300 * bh_a k + 256 + i) = μ.1 34 (3 * b + i)) (hf : ∀ c, 48 ≤ c → c ≤ 52 → π.1 c = ν.1 c) : bw_lg π (bh_a k) S (bo_par b l S) := by
  have h4 := ok_v4 hS hb
  have h64 := (g_rows_pos hS hb).2
  have h3 := ok_p3 hS hb
  refine Or.inl ⟨b, l, hb, ?_, ?_, ?_, fun r v hr' hv => ?_, fun i hi => ?_, rfl⟩
  · rw [hf 48 (by omega) (by omega)]; exact hn.2.2.2.2.2.1
  · rw [hf 49 (by omega) (by omega)]; exact hn.2.2.2.2.2.2
  · rw [hf 50 (by omega) (by omega), h50]; exact rm_c hR hb
  · rw [hf 52 (by omega) (by omega), hr _ (by omega), ← Nat.add_assoc]; exact rm_w hR hb hr' hv
  · rw [hf 52 (by omega) (by omega), ← Nat.add_assoc, hp _ (by omega)]; exact rm_p hR hb hi
theorem sM_arrow63 (d : Nat) {st : Nat → bwS} {k : Nat} {μ : bwM} (hL : bwL st k μ) (hR : bwR' (st k) μ) {a b : Nat} (hb : b < gN (st k)) (hl : (gP (st k) b).length < 3) (hS' : bwOK (bo_par b (gP (st k) b ++ [a]) (st k))) : ∃ ν, eX4_arrow (d + 1) 63 [some (.inr (.inr 30)), some (.inl (nI a)), some (.inl (nI b))] [] μ = some (some (.inl (nI ((gP (st k) b).length + 1))), ν) ∧ bwR' (bo_par b (gP (st k) b ++ [a]) (st k)) ν ∧ bwL (bh_st k st (bo_par b (gP (st k) b ++ [a]) (st k))) (bh_k k) ν ∧ bw_fM μ ν := by
  have hS : bwOK (st k) := hL.2.2.1 k (Nat.le_refl _)
  have hn := ok_n hS
  have ha : bh_a k < 100 := bh_a100
  obtain ⟨ν, e1, e2, e3, e4, e5⟩ := sM_note_1 d (b := b) (by omega) hL.1 μ hL.2.1
  have hRν := nt_r hR e2
  have hfν := nt_f e2
  have hpi : ∀ c j, ¬ (c = 33 ∧ j = b) → ¬ (c = 34 ∧ 3 * b ≤ j ∧ j < 3 * b + 3) → (bw_si (bw_si ν 34 (3 * b + (gP (st k) b).length) (nI a)) 33 b (nI ((gP (st k) b).length + 1))).1 c j = ν.1 c j := by
    intro c j h1 h2
    rw [bq_sin _ _ (by omega), bq_sin _ _ (by omega)]
  obtain ⟨τ, f1, f2, f3, f4⟩ := sM_reset d hb hS' hRν (π := bw_si (bw_si ν 34 (3 * b + (gP (st k) b).length) (nI a)) 33 b (nI ((gP (st k) b).length + 1))) hpi (by rw [bq_sie]; simp) (fun i hi => by
    have hi' : i < (gP (st k) b).length + 1 := by simpa using hi
    rw [bq_sin _ _ (by omega)]
    by_cases hil : i = (gP (st k) b).length
    · subst hil
      rw [bq_sie]; simp
    · rw [bq_sin _ _ (by omega), rm_p hRν hb (by omega)]
      congr 1
      exact (List.getElem_append_left (by omega)).symm)
  have hτ : ∀ c, c ≠ 33 → c ≠ 34 → c ≠ 35 → τ.1 c = ν.1 c := fun c h1 h2 h3 => by
    rw [f4 c h3]; funext j; exact hpi c j (by omega) (by omega)
  refine ⟨τ, ?_, f2, bwL_note hL e2 hS' (by rw [hτ 30 (by omega) (by omega) (by omega)]) (fun c i _ h1 h2 => by rw [hτ c (by omega) (by omega) (by omega)]) (hτ 52 (by omega) (by omega) (by omega)) (lg_par hS hR hb e2 e3 e4 e5 (fun c h1 h2 => hτ c (by omega) (by omega) (by omega))), f3.trans hfν.1, by rw [hτ 30 (by omega) (by omega) (by omega)]; exact hfν.2.1, fun c hc => by rw [hτ c (by omega) (by omega) (by omega)]; exact hfν.2.2 c hc⟩
  rw [qX4_arrow_63, e1, bq_V]
  simp only [bq_it (show b < 12 by omega) (by decide)]
  rw [nI_clamp (n := b) (by omega), rm_c hRν hb, bq_3, if_pos ((bq_ii (by omega)).2 (by omega)), nI_clamp (n := 3 * b + (gP (st k) b).length) (by omega), bq_sin (o' := 33) _ _ (by omega), rm_c hRν hb, nI_1, f1, bq_V, f4 33 (by omega), bq_sie]
theorem bp_F (l : List Nat) (a k : Nat) (hk : k < l.length) : (l.take (k + 1)).filter (fun p => p != a) = (l.take k).filter (fun p => p != a) ++ (if l[k] = a then [] else [l[k]]) := by
  rw [List.take_succ_eq_append_getElem hk, List.filter_append]
  congr 1
  by_cases h : l[k] = a
  · rw [if_pos h]; simp [h]
  · rw [if_neg h]; simp [h]
theorem sM_cut_go (d : Nat) {a b : Nat} (hb : b < 12) (ha : a < 12) {l : List Nat} (hl : l.length ≤ 3) (hl12 : ∀ p, p ∈ l → p < 12) (k : Nat) (hk : k ≤ l.length) (μ : bwM) (hc : μ.1 33 b = nI l.length) (h1 : ∀ i (h : i < ((l.take k).filter (fun p => p != a)).length), μ.1 34 (3 * b + i) = nI ((l.take k).filter (fun p => p != a))[i]) (h2 : ∀ i (h : i < l.length), k ≤ i → μ.1 34 (3 * b + i) = nI l[i]) : ∃ ν : bwM, eX4_cut d 38 [some (.inr (.inr 30)), some (.inl (nI a)), some (.inl (nI b)), some (.inl (nI ((l.take k).filter (fun p => p != a)).length)), some (.inl (nI k))] [] μ = bw_bV (bw_call d 89 [.inr (.inr 30), .inl (nI b)] (bw_si ν 33 b (nI (l.filter (fun p => p != a)).length))) none (fun m1 => some (some (.inl (nI (l.filter (fun p => p != a)).length)), m1)) ∧ ν.2 = μ.2 ∧ (∀ c j, ¬ (c = 34 ∧ 3 * b ≤ j ∧ j < 3 * b + 3) → ν.1 c j = μ.1 c j) ∧ (∀ i (h : i < (l.filter (fun p => p != a)).length), ν.1 34 (3 * b + i) = nI (l.filter (fun p => p != a))[i]) := by
  induction hj : l.length - k generalizing k μ with
  | zero =>
    have : k = l.length := by omega
    subst this
    rw [List.take_length] at h1 ⊢
    refine ⟨μ, ?_, rfl, fun _ _ _ => rfl, h1⟩
    rw [qX4_cut_38]
    simp only [bq_it hb (by decide)]
    rw [nI_clamp (n := b) (by omega), hc, if_pos (nI_le (by omega) (by omega))]
  | succ j ih =>
    have hk' : k < l.length := by omega
    have hlen : ((l.take k).filter (fun p => p != a)).length ≤ k := Nat.le_trans (List.length_filter_le _ _) (by simp; omega)
    have hF := bp_F l a k hk'
    have h12 := hl12 _ (List.getElem_mem hk')
    rw [qX4_cut_38]
    simp only [bq_it hb (by decide)]
    rw [nI_clamp (n := b) (by omega), hc, if_neg (nI_ge (by omega) (by omega)), bq_3, bq_3]
    simp only [bq_it (show 3 * b + k < 36 by omega) (by decide), bq_it (show 3 * b + ((l.take k).filter (fun p => p != a)).length < 36 by omega) (by decide)]
    rw [nI_clamp (n := 3 * b + k) (by omega), h2 k hk' (by omega), nI_clamp (n := 3 * b + ((l.take k).filter (fun p => p != a)).length) (by omega)]
    by_cases he : l[k] = a
    · rw [if_pos he, List.append_nil] at hF
      rw [if_pos (by rw [he]), qX4_cut_91, nI_1, ← hF]
      exact ih (k + 1) (by omega) μ hc (by rw [hF]; exact h1) (fun i hi hki => h2 i hi (by omega)) (by omega)
    · rw [if_neg he] at hF
      rw [if_neg (fun h => he ((nI_eq (by omega) (by omega)).1 h)), qX4_cut_88, qX4_cut_91, nI_1, nI_1]
      have hL : ((l.take (k + 1)).filter (fun p => p != a)).length = ((l.take k).filter (fun p => p != a)).length + 1 := by rw [hF]; simp
      rw [← hL]
      obtain ⟨ν, e1, e2, e3, e4⟩ := ih (k + 1) (by omega) (bw_si μ 34 (3 * b + ((l.take k).filter (fun p => p != a)).length) (nI l[k])) (by rw [bq_sin _ _ (by omega)]; exact hc) (fun i hi => by
        rw [hL] at hi
        by_cases hil : i = ((l.take k).filter (fun p => p != a)).length
        · subst hil
          rw [bq_sie]
          congr 1
          simp only [hF]
          simp
        · rw [bq_sin _ _ (by omega), h1 i (by omega)]
          congr 1
          simp only [hF]
          exact (List.getElem_append_left (by omega)).symm) (fun i hi hki => by
        rw [bq_sin _ _ (by omega)]; exact h2 i hi (by omega)) (by omega)
      refine ⟨ν, e1, e2, fun c j hcj => ?_, e4⟩
      rw [e3 c j hcj, bq_sin _ _ (by omega)]
theorem sM_cut (d : Nat) {st : Nat → bwS} {k : Nat} {μ : bwM} (hL : bwL st k μ) (hR : bwR' (st k) μ) {a b : Nat} (hb : b < gN (st k)) (hab : a ∈ gP (st k) b) (hS' : bwOK (bo_par b ((gP (st k) b).filter (fun p => p != a)) (st k))) : ∃ ν, bw_call (d + 2) 93 [.inr (.inr 30), .inl (nI a), .inl (nI b)] μ = some (some (.inl (nI ((gP (st k) b).filter (fun p => p != a)).length)), ν) ∧ bwR' (bo_par b ((gP (st k) b).filter (fun p => p != a)) (st k)) ν ∧ bwL (bh_st k st (bo_par b ((gP (st k) b).filter (fun p => p != a)) (st k))) (bh_k k) ν ∧ bw_fM μ ν := by
  have hS : bwOK (st k) := hL.2.2.1 k (Nat.le_refl _)
  have hn := ok_n hS
  have ha12 := ok_pn hS hb hab
  obtain ⟨ν, e1, e2, e3, e4, e5⟩ := sM_note_1 d (b := b) (by omega) hL.1 μ hL.2.1
  have hRν := nt_r hR e2
  have hfν := nt_f e2
  obtain ⟨ρ, g1, g2, g3, g4⟩ := sM_cut_go (d + 1) (a := a) (b := b) (by omega) (by omega) (ok_p3 hS hb) (fun p hp => by have := ok_pn hS hb hp; omega) 0 (by omega) ν (rm_c hRν hb) (fun i hi => by simp at hi) (fun i hi _ => rm_p hRν hb hi)
  have hpi : ∀ c j, ¬ (c = 33 ∧ j = b) → ¬ (c = 34 ∧ 3 * b ≤ j ∧ j < 3 * b + 3) → (bw_si ρ 33 b (nI ((gP (st k) b).filter (fun p => p != a)).length)).1 c j = ν.1 c j := by
    intro c j h1 h2
    rw [bq_sin _ _ (by omega), g3 c j h2]
  obtain ⟨τ, f1, f2, f3, f4⟩ := sM_reset d hb hS' hRν hpi (bq_sie _ _ _ _) (fun i hi => by rw [bq_sin _ _ (by omega)]; exact g4 i hi)
  have hτ : ∀ c, c ≠ 33 → c ≠ 34 → c ≠ 35 → τ.1 c = ν.1 c := fun c h1 h2 h3 => by
    rw [f4 c h3]; funext j; exact hpi c j (by omega) (by omega)
  refine ⟨τ, ?_, f2, bwL_note hL e2 hS' (by rw [hτ 30 (by omega) (by omega) (by omega)]) (fun c i _ h1 h2 => by rw [hτ c (by omega) (by omega) (by omega)]) (hτ 52 (by omega) (by omega) (by omega)) (lg_par hS hR hb e2 e3 e4 e5 (fun c h1 h2 => hτ c (by omega) (by omega) (by omega))), (f3.trans g2).trans hfν.1, by rw [hτ 30 (by omega) (by omega) (by omega)]; exact hfν.2.1, fun c hc => by rw [hτ c (by omega) (by omega) (by omega)]; exact hfν.2.2 c hc⟩
  rw [qX4_cut, sM_isT _ hS hR ha12, bq_I, if_neg bq_ne10, sM_isT _ hS hR hb, bq_I, if_neg bq_ne10, sM_par _ hS hR hb ha12 hab, bq_I, if_neg bq_ne10, e1, bq_V, qX4_cut_35, show (0 : Int32) = nI 0 from rfl]
  refine g1.trans ?_
  rw [f1, bq_V]
theorem sM_opt_in (d : Nat) (x1 x2 : Int32) {o : Nat} (ho : o < 6) (i : Nat) (hi : i ≤ 48) (μ : bwM) : ∃ ν : bwM, eX4_options d 33 [some (.inr (.inr 30)), some (.inl x1), some (.inl x2), some (.inl (nI o)), some (.inl (nI i))] [] μ = eX4_options d 25 [some (.inr (.inr 30)), some (.inl x1), some (.inl x2), some (.inl (nI (o + 1))), some (.inl (nI 48))] [] ν ∧ ν.2 = μ.2 ∧ (∀ c j, ¬ (c = 39 ∧ 48 * o + i ≤ j ∧ j < 48 * o + 48) → ν.1 c j = μ.1 c j) ∧ (∀ q, i ≤ q → q < 48 → ν.1 39 (48 * o + q) = 0) := by
  induction hj : 48 - i generalizing i μ with
  | zero =>
    have : i = 48 := by omega
    subst this
    refine ⟨μ, ?_, rfl, fun _ _ _ => rfl, fun q h h' => by omega⟩
    rw [qX4_options_33, if_pos (by decide), nI_1]
  | succ j ih =>
    obtain ⟨ν, e1, e2, e3, e4⟩ := ih (i + 1) (by omega) (bw_si μ 39 (48 * o + i) 0) (by omega)
    refine ⟨ν, ?_, e2, fun c j hcj => ?_, fun q hq hq' => ?_⟩
    · rw [qX4_options_33, if_neg (show ¬ (48 : Int32) ≤ nI i from nI_ge (b := 48) (by omega) (by omega)), show (48 : Int32) = nI 48 from rfl, pk_mul, nI_add, if_pos ((bq_ii (by omega)).2 (by omega)), nI_clamp (by omega), nI_1]
      exact e1
    · rw [e3 c j (by omega), bq_sin _ _ (by omega)]
    · by_cases hqi : q = i
      · subst hqi
        rw [e3 _ _ (by omega), bq_sie]
      · exact e4 q (by omega) hq'
theorem sM_opt_go (d : Nat) {n : Nat} (hn : n ≤ 6) (x2 : Int32) (o : Nat) (ho : o ≤ 6) (o4 : Option bwV) (μ : bwM) : ∃ ν : bwM, eX4_options d 25 [some (.inr (.inr 30)), some (.inl (nI n)), some (.inl x2), some (.inl (nI o)), o4] [] μ = some (some (.inl x2), bw_si ν 30 10 (nI n)) ∧ ν.2 = μ.2 ∧ (∀ c j, ¬ (c = 39 ∧ 48 * o ≤ j) → ν.1 c j = μ.1 c j) ∧ (∀ j, 48 * o ≤ j → j < 48 * n → ν.1 39 j = 0) := by
  induction hj : n - o generalizing o o4 μ with
  | zero =>
    refine ⟨μ, ?_, rfl, fun _ _ _ => rfl, fun j h h' => by omega⟩
    rw [qX4_options_25, if_pos (nI_le (by omega) (by omega))]
  | succ j ih =>
    obtain ⟨π, f1, f2, f3, f4⟩ := sM_opt_in d (nI n) x2 (o := o) (by omega) 0 (by omega) μ
    obtain ⟨ν, e1, e2, e3, e4⟩ := ih (o + 1) (by omega) (some (.inl (nI 48))) π (by omega)
    refine ⟨ν, ?_, e2.trans f2, fun c j hcj => ?_, fun j hj hj' => ?_⟩
    · rw [qX4_options_25, if_neg (nI_ge (by omega) (by omega))]
      exact f1.trans e1
    · rw [e3 c j (by omega), f3 c j (by omega)]
    · by_cases hjo : 48 * (o + 1) ≤ j
      · exact e4 j hjo hj'
      · rw [e3 _ _ (by omega)]
        have := f4 (j - 48 * o) (by omega) (by omega)
        rw [show 48 * o + (j - 48 * o) = j by omega] at this
        exact this
theorem sM_options (d : Nat) {st : Nat → bwS} {k : Nat} {μ : bwM} (hL : bwL st k μ) (hR : bwR' (st k) μ) {n : Nat} (hn6 : n ≤ 6) : ∃ ν, bw_call (d + 2) 128 [.inr (.inr 30), .inl (nI n)] μ = some (some (.inl (nI (gO (st k)))), ν) ∧ bwR' (bo_options n (st k)) ν ∧ bwL (bh_st k st (bo_options n (st k))) (bh_k k) ν ∧ bw_fM μ ν := by
  have hS : bwOK (st k) := hL.2.2.1 k (Nat.le_refl _)
  have hn := ok_n hS
  have hno := ok_o hS
  obtain ⟨ν, e1, e2, e3, e4⟩ := sM_note_5 d 0 hL.1 μ hL.2.1
  have hRν := nt_r hR e2
  have hfν := nt_f e2
  obtain ⟨ρ, g1, g2, g3, g4⟩ := sM_opt_go (d + 1) hn6 (nI (gO (st k))) (gO (st k)) hno none ν
  have hr : ∀ c j, ¬ (c = 39 ∧ 48 * gO (st k) ≤ j) → ¬ (c = 30 ∧ j = 10) → (bw_si ρ 30 10 (nI n)).1 c j = ν.1 c j := fun c j h1 h2 => by
    rw [bq_sin _ _ (by omega), g3 c j h1]
  have hrc : ∀ c, c ≠ 39 → c ≠ 30 → (bw_si ρ 30 10 (nI n)).1 c = ν.1 c := fun c h1 h2 => by
    funext j; exact hr c j (by omega) (by omega)
  refine ⟨bw_si ρ 30 10 (nI n), ?_, ⟨⟨fun x hx => ?_, fun x k hk hx => ?_, fun x r v hx hr' hv => ?_, fun x v hx hv => ?_, fun o x v ho hx hv => ?_⟩, ?_, bq_sie _ _ _ _⟩, bwL_note hL e2 (ok_options hS hn6) (hr _ _ (by omega) (by omega)) (fun c i hi hc hc' => hr _ _ (by omega) (by omega)) (hrc 52 (by omega) (by omega)) (Or.inr (Or.inr (Or.inr (Or.inr (Or.inl ⟨n, ?_, ?_, fun o x v ho hx hv => ?_, rfl⟩))))), g2.trans hfν.1, ?_, fun c hc => ?_⟩
  · rw [qX4_options, if_neg (nI_pos (by omega)), if_pos (show nI n ≤ (6 : Int32) from nI_le (b := 6) hn6 (by omega)), e1, bq_V, rr_o hRν]
    exact g1
  · rw [hr _ _ (by omega) (by omega), hr _ _ (by omega) (by omega), hr _ _ (by omega) (by omega), hr _ _ (by omega) (by omega), hr _ _ (by omega) (by omega)]
    exact hRν.1.1 x hx
  · rw [hr _ _ (by omega) (by omega)]; exact hRν.1.2.1 x k hk hx
  · rw [hr _ _ (by omega) (by omega)]; exact hRν.1.2.2.1 x r v hx hr' hv
  · rw [hr _ _ (by omega) (by omega)]; exact hRν.1.2.2.2.1 x v hx hv
  · have ho' : o < n := ho
    have hx' : x < gN (st k) := hx
    have hv' : v < gV (st k) x := hv
    have h4 := ok_v4 hS hx'
    show _ = if o < n then gU (st k) o x v else 0
    rw [if_pos ho']
    by_cases hog : o < gO (st k)
    · rw [hr _ _ (by omega) (by omega)]
      exact ra_u hRν.1 hog hx' hv'
    · rw [bq_sin _ _ (by omega)]
      refine (g4 _ (by omega) (by omega)).trans (ok_u0 hS (fun h => hog h.1)).symm
  · rw [hr _ _ (by omega) (by omega)]; exact hRν.2.1
  · rw [hr _ _ (by omega) (by omega)]; exact e2.2.2.2.2.2.1
  · rw [hr _ _ (by omega) (by omega), e3]; exact hR.2.2
  · have h4 := ok_v4 hS hx
    rw [hr _ _ (by omega) (by omega), e4 _ (by omega)]
    exact rm_u hR ho hx hv
  · rw [hr _ _ (by omega) (by omega)]; exact hfν.2.1
  · rw [hrc c (by omega) (by omega)]; exact hfν.2.2 c hc
