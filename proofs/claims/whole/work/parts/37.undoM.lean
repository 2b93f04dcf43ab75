/-! PURE: undo in the reference. -/
theorem bp_up_back {α : Type} (f : Nat → α) (x : Nat) (v : α) : bp_up (bp_up f x v) x (f x) = f := by
  funext y
  by_cases h : y = x
  · rw [h, bp_up_eq]
  · rw [bp_up_ne _ h, bp_up_ne _ h]
theorem bo_weight_back (x r v k : Nat) (S : bwS) : bo_weight x r v (gW S x r v) (bo_weight x r v k S) = S := by
  have h : bp_up (gW (bo_weight x r v k S)) x (bp_up (gW (bo_weight x r v k S) x) r (bp_up (gW (bo_weight x r v k S) x r) v (gW S x r v))) = gW S := by
    have h1 : gW (bo_weight x r v k S) x = bp_up (gW S x) r (bp_up (gW S x r) v k) := bp_up_eq _ _ _
    rw [h1]
    have h2 : bp_up (gW S x) r (bp_up (gW S x r) v k) r = bp_up (gW S x r) v k := bp_up_eq _ _ _
    rw [h2, bp_up_back, bp_up_back]
    exact bp_up_back _ _ _
  unfold bo_weight at h ⊢
  exact Prod.ext rfl (Prod.ext rfl (Prod.ext rfl (Prod.ext rfl (Prod.ext rfl (Prod.ext h rfl)))))
theorem bo_force_back (x v k : Nat) (S : bwS) : bo_force x v (gF S x v) (bo_force x v k S) = S := by
  have h : bp_up (gF (bo_force x v k S)) x (bp_up (gF (bo_force x v k S) x) v (gF S x v)) = gF S := by
    have h1 : gF (bo_force x v k S) x = bp_up (gF S x) v k := bp_up_eq _ _ _
    rw [h1, bp_up_back]
    exact bp_up_back _ _ _
  unfold bo_force at h ⊢
  exact Prod.ext rfl (Prod.ext rfl (Prod.ext rfl (Prod.ext rfl (Prod.ext rfl (Prod.ext rfl (Prod.ext rfl (Prod.ext rfl (Prod.ext h rfl))))))))
theorem bo_worth_back (o x v : Nat) (k : Int32) (S : bwS) : bo_worth o x v (gU S o x v) (bo_worth o x v k S) = S := by
  have h : bp_up (gU (bo_worth o x v k S)) o (bp_up (gU (bo_worth o x v k S) o) x (bp_up (gU (bo_worth o x v k S) o x) v (gU S o x v))) = gU S := by
    have h1 : gU (bo_worth o x v k S) o = bp_up (gU S o) x (bp_up (gU S o x) v k) := bp_up_eq _ _ _
    rw [h1]
    have h2 : bp_up (gU S o) x (bp_up (gU S o x) v k) x = bp_up (gU S o x) v k := bp_up_eq _ _ _
    rw [h2, bp_up_back, bp_up_back]
    exact bp_up_back _ _ _
  unfold bo_worth at h ⊢
  exact Prod.ext rfl (Prod.ext rfl (Prod.ext rfl (Prod.ext rfl (Prod.ext rfl (Prod.ext rfl (Prod.ext rfl (Prod.ext rfl (Prod.ext rfl h))))))))
theorem bo_known_back (x : Nat) (s u : Option Nat) (S : bwS) : bo_known x (gS S x) (gD S x) (bo_known x s u S) = S := by
  have h : bp_up (gS (bo_known x s u S)) x (gS S x) = gS S := bp_up_back _ _ _
  have h' : bp_up (gD (bo_known x s u S)) x (gD S x) = gD S := bp_up_back _ _ _
  unfold bo_known at h h' ⊢
  exact Prod.ext rfl (Prod.ext rfl (Prod.ext rfl (Prod.ext rfl (Prod.ext rfl (Prod.ext rfl (Prod.ext h (Prod.ext h' rfl)))))))
theorem bwL_back {st : Nat → bwS} {k : Nat} {μ ν : bwM} (h : bwL st (k + 1) μ) (h25 : ν.1 30 25 = nI k) (hf : ∀ c, 48 ≤ c → c ≤ 52 → ν.1 c = μ.1 c) : bwL st k ν := by
  obtain ⟨h1, h2, h3, h4⟩ := h
  refine ⟨by omega, h25, fun i hi => h3 i (by omega), fun i hi => lg_move (h3 i (by omega)) (h4 i (by omega)) ?_ ?_ ?_ ?_ (fun q hq => ?_)⟩
  · rw [hf 48 (by omega) (by omega)]
  · rw [hf 49 (by omega) (by omega)]
  · rw [hf 50 (by omega) (by omega)]
  · rw [hf 51 (by omega) (by omega)]
  · rw [hf 52 (by omega) (by omega)]
theorem sM_undo (d : Nat) {st : Nat → bwS} {k : Nat} {μ : bwM} (hL : bwL st (k + 1) μ) (hR : bwR' (st (k + 1)) μ) : ∃ ν, bw_call (d + 1) 140 [.inr (.inr 30)] μ = some (some (.inl (nI k)), ν) ∧ bwR' (st k) ν ∧ bwL st k ν ∧ bw_fM μ ν := by
  have hL0 := hL
  obtain ⟨h1, h2, h3, h4⟩ := hL
  have hS : bwOK (st k) := h3 k (by omega)
  have hS' : bwOK (st (k + 1)) := h3 (k + 1) (by omega)
  have hlg := h4 k (by omega)
  have hn := ok_n hS
  have hno := ok_o hS
  rw [qX4_undo, h2, nI_pred, if_neg (nI_ne0 (by omega) (by omega))]
  have hq : ∀ c j, ¬ (c = 30 ∧ j = 25) → (bw_si μ 30 25 (nI k)).1 c j = μ.1 c j := fun c j h => bq_sin _ _ (by omega)
  have hq2 : (bw_si μ 30 25 (nI k)).2 = μ.2 := rfl
  have hqk : (bw_si μ 30 25 (nI k)).1 30 25 = nI k := bq_sie _ _ _ _
  generalize bw_si μ 30 25 (nI k) = π at hq hq2 hqk ⊢
  have hqc : ∀ c, c ≠ 30 → π.1 c = μ.1 c := fun c hc => funext (fun j => hq c j (by omega))
  rw [hqk]
  simp only [bq_it (show k < 100 by omega) (by decide)]
  rw [nI_clamp (n := k) (by omega), hqc 48 (by omega), hqc 49 (by omega), hqc 50 (by omega)]
  have hAπ : bwA 30 (st (k + 1)) π := by
    have := hR.1
    unfold bwA at this ⊢
    rw [hqc _ (by omega), hqc _ (by omega), hqc _ (by omega), hqc _ (by omega), hqc _ (by omega), hqc _ (by omega), hqc _ (by omega), hqc _ (by omega), hqc _ (by omega)]
    exact this
  rcases hlg with ⟨b, l, a1, a2, a3, a4, a5, a6, a7⟩ | ⟨x, r, v, w, a1, a2, a3, a4, a5, a6, a7⟩ | ⟨x, s, u, a1, a2, a3, a4, a5, a6⟩ | ⟨x, v, f, a1, a2, a3, a4, a5, a6⟩ | ⟨n, a1, a2, a3, a4⟩ | ⟨o, x, v, u, a1, a2, a3, a4, a5, a6, a7⟩
  · have hc1 := bp_copy (fun i μ => eX4_undo d 97 [some (.inr (.inr 30)), some (.inl (nI b)), some (.inl (nI (300 * k))), some (.inl (nI i))] [] μ) 52 (300 * k) 35 (256 * b) 256 (Or.inl (by omega)) (fun i τ hi => by
      rw [qX4_undo_97, if_neg (show ¬ (256 : Int32) ≤ nI i from nI_ge (b := 256) (by omega) (by omega)), show (256 : Int32) = nI 256 from rfl, pk_mul, nI_add, nI_add, if_pos ((bq_ii (by omega)).2 (by omega)), if_pos ((bq_ii (by omega)).2 (by omega)), nI_clamp (by omega), nI_clamp (by omega), nI_1]) 0 (by omega) (bw_si π 33 b (nI (gP (st k) b).length))
    obtain ⟨ρ, f1, f2, f3, f4⟩ := hc1
    have hc2 := bp_copy (fun i μ => eX4_undo d 132 [some (.inr (.inr 30)), some (.inl (nI b)), some (.inl (nI (300 * k))), some (.inl (nI i))] [] μ) 52 (300 * k + 256) 34 (3 * b) 3 (Or.inl (by omega)) (fun i τ hi => by
      rw [qX4_undo_132, if_neg (show ¬ (3 : Int32) ≤ nI i from nI_ge (b := 3) (by omega) (by omega)), bq_3, show (256 : Int32) = nI 256 from rfl, nI_add, nI_add, if_pos ((bq_ii (by omega)).2 (by omega)), if_pos ((bq_ii (by omega)).2 (by omega)), nI_clamp (by omega), nI_clamp (by omega), nI_1]) 0 (by omega) ρ
    obtain ⟨σ, g1, g2, g3, g4⟩ := hc2
    have hσ : ∀ c j, ¬ (c = 33 ∧ j = b) → ¬ (c = 34 ∧ 3 * b ≤ j ∧ j < 3 * b + 3) → ¬ (c = 35 ∧ 256 * b ≤ j ∧ j < 256 * b + 256) → σ.1 c j = π.1 c j := fun c j k1 k2 k3 => by
      rw [g3 _ _ (by omega), f3 _ _ (by omega), bq_sin _ _ (by omega)]
    have hσc : ∀ c, c ≠ 33 → c ≠ 34 → c ≠ 35 → σ.1 c = π.1 c := fun c k1 k2 k3 => funext (fun j => hσ c j (by omega) (by omega) (by omega))
    have hP : ∀ x, x ≠ b → gP (st (k + 1)) x = gP (st k) x := fun x hx => by rw [a7]; exact bp_up_ne _ hx _
    have hN : gN (st (k + 1)) = gN (st k) := by rw [a7]; rfl
    have hV : gV (st (k + 1)) = gV (st k) := by rw [a7]; rfl
    have hT : gT (st (k + 1)) = gT (st k) := by rw [a7]; rfl
    have hSS : gS (st (k + 1)) = gS (st k) := by rw [a7]; rfl
    have hDD : gD (st (k + 1)) = gD (st k) := by rw [a7]; rfl
    have hFF : gF (st (k + 1)) = gF (st k) := by rw [a7]; rfl
    have hUU : gU (st (k + 1)) = gU (st k) := by rw [a7]; rfl
    have hOO : gO (st (k + 1)) = gO (st k) := by rw [a7]; rfl
    have hWW : ∀ x, x ≠ b → gW (st (k + 1)) x = gW (st k) x := fun x hx => by rw [a7]; exact bp_up_ne _ hx _
    have hrw : ∀ x, x ≠ b → g_rows (st (k + 1)) x = g_rows (st k) x := fun x hx => by
      unfold g_rows
      rw [hP x hx, hV]
    have h64 := (g_rows_pos hS a1).2
    have hb4 := ok_v4 hS a1
    refine ⟨σ, ?_, ⟨⟨fun x hx => ?_, fun x i hi hx => ?_, fun x r v hx hr hv => ?_, fun x v hx hv => ?_, fun o x v ho hx hv => ?_⟩, ?_, ?_⟩, bwL_back hL0 (by rw [hσ _ _ (by omega) (by omega) (by omega)]; exact hqk) (fun c h1 h2 => by rw [hσc c (by omega) (by omega) (by omega), hqc c (by omega)]), ?_, ?_, fun c hc => ?_⟩
    · rw [if_pos a2, a3, a4, if_pos ((bq_ii (by omega)).2 (by omega)), nI_clamp (by omega), qX4_undo_95, show (300 : Int32) = nI 300 from rfl, pk_mul, show (0 : Int32) = nI 0 from rfl]
      refine f1.trans ?_
      show eX4_undo d 97 _ [] ρ = _
      rw [qX4_undo_97, if_pos (by decide), show (0 : Int32) = nI 0 from rfl]
      refine g1.trans ?_
      show eX4_undo d 132 _ [] σ = _
      rw [qX4_undo_132, if_pos (by decide), qX4_undo_297, hσ _ _ (by omega) (by omega) (by omega), hqk]
    · have h0 := hAπ.1 x (by rw [hN]; exact hx)
      rw [hσ (30 + 1) _ (by omega) (by omega) (by omega), hσ (30 + 2) _ (by omega) (by omega) (by omega), hσ (30 + 6) _ (by omega) (by omega) (by omega), hσ (30 + 7) _ (by omega) (by omega) (by omega)]
      rw [hV, hT, hSS, hDD] at h0
      refine ⟨h0.1, h0.2.1, ?_, h0.2.2.2.1, h0.2.2.2.2⟩
      by_cases hxb : x = b
      · rw [hxb, g3 _ _ (by omega), f3 _ _ (by omega), bq_sie]
      · rw [hσ _ _ (by omega) (by omega) (by omega), ← hP x hxb]; exact h0.2.2.1
    · have hk3 := ok_p3 hS hx
      by_cases hxb : x = b
      · subst hxb
        refine (g4 i (by omega) (by omega)).trans ?_
        rw [f3 _ _ (by omega), bq_sin _ _ (by omega), hqc 52 (by omega), Nat.add_assoc]
        exact a6 i hi
      · rw [hσ _ _ (by omega) (by omega) (by omega)]
        have h0 := hAπ.2.1 x i (by rw [hP x hxb]; exact hi) (by rw [hN]; exact hx)
        rw [h0]
        congr 1
        simp only [hP x hxb]
    · have hx4 := ok_v4 hS hx
      have hx64 := (g_rows_pos hS hx).2
      by_cases hxb : x = b
      · subst hxb
        rw [g3 _ _ (by omega), Nat.add_assoc]
        refine (f4 (4 * r + v) (by omega) (by omega)).trans ?_
        rw [bq_sin _ _ (by omega), hqc 52 (by omega)]
        exact a5 r v hr hv
      · rw [hσ _ _ (by omega) (by omega) (by omega)]
        have h0 := hAπ.2.2.1 x r v (by rw [hN]; exact hx) (by rw [hrw x hxb]; exact hr) (by rw [hV]; exact hv)
        rw [h0, hWW x hxb]
    · rw [hσ _ _ (by omega) (by omega) (by omega)]
      have h0 := hAπ.2.2.2.1 x v (by rw [hN]; exact hx) (by rw [hV]; exact hv)
      rw [h0, hFF]
    · rw [hσ _ _ (by omega) (by omega) (by omega)]
      have h0 := hAπ.2.2.2.2 o x v (by rw [hOO]; exact ho) (by rw [hN]; exact hx) (by rw [hV]; exact hv)
      rw [h0, hUU]
    · rw [hσ _ _ (by omega) (by omega) (by omega), hq _ _ (by omega), ← hN]; exact hR.2.1
    · rw [hσ _ _ (by omega) (by omega) (by omega), hq _ _ (by omega), ← hOO]; exact hR.2.2
    · rw [g2, f2]; exact hq2
    · rw [hσ _ _ (by omega) (by omega) (by omega), hq _ _ (by omega)]
    · rw [hσc c (by omega) (by omega) (by omega), hqc c (by omega)]
  · have h4 := ok_v4 hS a1
    have h64 := (g_rows_pos hS a1).2
    have hAA := aA_weight (k := gW (st k) x r v) hS' (x := x) (r := r) (v := v) (by rw [a7]; exact a1) (by rw [a7]; exact a2) (by rw [a7]; exact a3) hAπ
    rw [a7, bo_weight_back] at hAA
    refine ⟨_, ?_, ⟨hAA, ?_, ?_⟩, bwL_back hL0 (by rw [bq_sin _ _ (by omega)]; exact hqk) (fun c h1 h2 => by rw [← hqc c (by omega)]; funext j; exact bq_sin _ _ (by omega)), hq2, ?_, fun c hc => ?_⟩
    · rw [if_neg (by rw [a4]; decide), if_pos a4, a5, a6, if_pos ((bq_ii (by omega)).2 (by omega)), nI_clamp (by omega), qX4_undo_183, qX4_undo_297, bq_sin _ _ (by omega), hqk]
    · rw [bq_sin _ _ (by omega), hq _ _ (by omega), hR.2.1, a7]; rfl
    · rw [bq_sin _ _ (by omega), hq _ _ (by omega), hR.2.2, a7]; rfl
    · rw [bq_sin _ _ (by omega), hq _ _ (by omega)]
    · rw [← hqc c (by omega)]; funext j; exact bq_sin _ _ (by omega)
  · have hAA := aA_known (x := x) (gS (st k) x) (gD (st k) x) hAπ
    rw [a6, bo_known_back] at hAA
    refine ⟨_, ?_, ⟨hAA, ?_, ?_⟩, bwL_back hL0 (by rw [bq_sin _ _ (by omega), bq_sin _ _ (by omega)]; exact hqk) (fun c h1 h2 => by rw [← hqc c (by omega)]; funext j; rw [bq_sin _ _ (by omega), bq_sin _ _ (by omega)]), hq2, ?_, fun c hc => ?_⟩
    · rw [if_neg (by rw [a2]; decide), if_neg (by rw [a2]; decide), if_pos a2, a3, a4, if_pos ((bq_ii (by omega)).2 (by omega)), nI_clamp (n := x) (by omega), qX4_undo_201, bq_sin (o' := 30) _ _ (by omega), hqk, if_pos ((bq_ii (by omega)).2 (by omega)), if_pos ((bq_ii (by omega)).2 (by omega)), nI_clamp (n := x) (by omega), nI_clamp (n := k) (by omega), bq_sin (o' := 51) _ _ (by omega), hqc 51 (by omega), a5, qX4_undo_297, bq_sin (o' := 30) _ _ (by omega), bq_sin (o' := 30) _ _ (by omega), hqk]
    · rw [bq_sin _ _ (by omega), bq_sin _ _ (by omega), hq _ _ (by omega), hR.2.1, a6]; rfl
    · rw [bq_sin _ _ (by omega), bq_sin _ _ (by omega), hq _ _ (by omega), hR.2.2, a6]; rfl
    · rw [bq_sin _ _ (by omega), bq_sin _ _ (by omega), hq _ _ (by omega)]
    · rw [← hqc c (by omega)]; funext j; rw [bq_sin _ _ (by omega), bq_sin _ _ (by omega)]
  · have h4 := ok_v4 hS a1
    have hAA := aA_force (k := gF (st k) x v) hS' (x := x) (v := v) (by rw [a6]; exact a1) (by rw [a6]; exact a2) hAπ
    rw [a6, bo_force_back] at hAA
    refine ⟨_, ?_, ⟨hAA, ?_, ?_⟩, bwL_back hL0 (by rw [bq_sin _ _ (by omega)]; exact hqk) (fun c h1 h2 => by rw [← hqc c (by omega)]; funext j; exact bq_sin _ _ (by omega)), hq2, ?_, fun c hc => ?_⟩
    · rw [if_neg (by rw [a3]; decide), if_neg (by rw [a3]; decide), if_neg (by rw [a3]; decide), if_pos a3, a4, a5, if_pos ((bq_ii (by omega)).2 (by omega)), nI_clamp (by omega), qX4_undo_234, qX4_undo_297, bq_sin _ _ (by omega), hqk]
    · rw [bq_sin _ _ (by omega), hq _ _ (by omega), hR.2.1, a6]; rfl
    · rw [bq_sin _ _ (by omega), hq _ _ (by omega), hR.2.2, a6]; rfl
    · rw [bq_sin _ _ (by omega), hq _ _ (by omega)]
    · rw [← hqc c (by omega)]; funext j; exact bq_sin _ _ (by omega)
  · have hc1 := bp_copy (fun i μ => eX4_undo d 252 [some (.inr (.inr 30)), some (.inl (μ.1 49 k)), some (.inl (nI (300 * k))), some (.inl (nI i))] [] μ) 52 (300 * k) 39 0 288 (Or.inl (by omega)) (fun i τ hi => by
      rw [qX4_undo_252, if_neg (show ¬ (288 : Int32) ≤ nI i from nI_ge (b := 288) (by omega) (by omega)), nI_add, if_pos ((bq_ii (by omega)).2 (by omega)), if_pos ((bq_ii (by omega)).2 (by omega)), nI_clamp (by omega), nI_clamp (by omega), nI_1, Nat.zero_add, bq_sin (o' := 49) _ _ (by omega)]) 0 (by omega) (bw_si π 30 10 (nI (gO (st k))))
    obtain ⟨σ, f1, f2, f3, f4⟩ := hc1
    have hσ : ∀ c j, ¬ (c = 30 ∧ j = 10) → c ≠ 39 → σ.1 c j = π.1 c j := fun c j k1 k2 => by
      rw [f3 _ _ (by omega), bq_sin _ _ (by omega)]
    have hσc : ∀ c, c ≠ 30 → c ≠ 39 → σ.1 c = π.1 c := fun c k1 k2 => funext (fun j => hσ c j (by omega) (by omega))
    rw [a4] at hAπ
    refine ⟨σ, ?_, ⟨⟨fun x hx => ?_, fun x i hi hx => ?_, fun x r v hx hr hv => ?_, fun x v hx hv => ?_, fun o x v ho hx hv => ?_⟩, ?_, ?_⟩, bwL_back hL0 (by rw [hσ _ _ (by omega) (by omega)]; exact hqk) (fun c h1 h2 => by rw [hσc c (by omega) (by omega), hqc c (by omega)]), f2.trans hq2, ?_, fun c hc => ?_⟩
    · rw [if_neg (by rw [a1]; decide), if_neg (by rw [a1]; decide), if_neg (by rw [a1]; decide), if_neg (by rw [a1]; decide), if_pos a1, a2, qX4_undo_250, show (300 : Int32) = nI 300 from rfl, pk_mul, show (0 : Int32) = nI 0 from rfl]
      have hf1 : eX4_undo d 252 [some (.inr (.inr 30)), some (.inl ((bw_si π 30 10 (nI (gO (st k)))).1 49 k)), some (.inl (nI (300 * k))), some (.inl (nI 0))] [] (bw_si π 30 10 (nI (gO (st k)))) = eX4_undo d 252 [some (.inr (.inr 30)), some (.inl (σ.1 49 k)), some (.inl (nI (300 * k))), some (.inl (nI 288))] [] σ := f1
      have h49 : (bw_si π 30 10 (nI (gO (st k)))).1 49 k = μ.1 49 k := by rw [bq_sin _ _ (by omega), hqc 49 (by omega)]
      rw [h49] at hf1
      refine hf1.trans ?_
      rw [qX4_undo_252, if_pos (by decide), qX4_undo_297, hσ _ _ (by omega) (by omega), hqk]
    · rw [hσ _ _ (by omega) (by omega), hσ _ _ (by omega) (by omega), hσ _ _ (by omega) (by omega), hσ _ _ (by omega) (by omega), hσ _ _ (by omega) (by omega)]
      exact hAπ.1 x hx
    · rw [hσ _ _ (by omega) (by omega)]; exact hAπ.2.1 x i hi hx
    · rw [hσ _ _ (by omega) (by omega)]; exact hAπ.2.2.1 x r v hx hr hv
    · rw [hσ _ _ (by omega) (by omega)]; exact hAπ.2.2.2.1 x v hx hv
    · have h4 := ok_v4 hS hx
      have h5 := f4 (48 * o + 4 * x + v) (by omega) (by omega)
      rw [Nat.zero_add] at h5
      refine h5.trans ?_
      rw [bq_sin _ _ (by omega), hqc 52 (by omega)]
      exact a3 o x v ho hx hv
    · rw [hσ _ _ (by omega) (by omega), hq _ _ (by omega), hR.2.1, a4]; rfl
    · rw [f3 _ _ (by omega), bq_sie]
    · rw [hσ _ _ (by omega) (by omega), hq _ _ (by omega)]
    · rw [hσc c (by omega) (by omega), hqc c (by omega)]
  · have h4 := ok_v4 hS a2
    have hAA := aA_worth (o := o) (k := gU (st k) o x v) hS' (x := x) (v := v) (by rw [a7]; exact a2) (by rw [a7]; exact a3) hAπ
    rw [a7, bo_worth_back] at hAA
    refine ⟨_, ?_, ⟨hAA, ?_, ?_⟩, bwL_back hL0 (by rw [bq_sin _ _ (by omega)]; exact hqk) (fun c h1 h2 => by rw [← hqc c (by omega)]; funext j; exact bq_sin _ _ (by omega)), hq2, ?_, fun c hc => ?_⟩
    · rw [if_neg (by rw [a4]; decide), if_neg (by rw [a4]; decide), if_neg (by rw [a4]; decide), if_neg (by rw [a4]; decide), if_neg (by rw [a4]; decide), a5, a6, if_pos ((bq_ii (by omega)).2 (by omega)), nI_clamp (by omega), qX4_undo_297, bq_sin _ _ (by omega), hqk]
    · rw [bq_sin _ _ (by omega), hq _ _ (by omega), hR.2.1, a7]; rfl
    · rw [bq_sin _ _ (by omega), hq _ _ (by omega), hR.2.2, a7]; rfl
    · rw [bq_sin _ _ (by omega), hq _ _ (by omega)]
    · rw [← hqc c (by omega)]; funext j; exact bq_sin _ _ (by omega)
