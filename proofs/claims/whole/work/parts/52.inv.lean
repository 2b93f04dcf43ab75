/-! PURE: what holds between two calls; questions keep it. -/
def bwI (st : Nat → bwS) (ac : Nat → bwOp) (k f m : Nat) (μ : bwM) : Prop := bwH st ac k f μ ∧ bwC 2 (st k) μ ∧ bwR' (st k) μ ∧ bwL st k μ ∧ (μ.2 0 5 = μ.2 30 15 ∧ μ.2 0 6 = μ.2 30 16) ∧ m ≤ 12 ∧ μ.1 0 4 = nI m ∧ μ.1 30 18 = nI m ∧ (∀ x, x < m → μ.1 1 x = μ.1 42 x)
def bwInv (μ : bwM) : Prop := ∃ st ac k f m, bwI st ac k f m μ
/-- a call of the class and the same of the reference answer alike -/
def bwJ (d mc mm : Nat) (ca ma : List bwV) (μ : bwM) : Prop := ∃ r ν π, bw_call (d + 40) mc (.inr (.inr 0) :: ca) μ = some (some (.inl r), ν) ∧ bw_call (d + 40) mm (.inr (.inr 30) :: ma) ν = some (some (.inl r), π) ∧ bwInv π
theorem fr_l {st : Nat → bwS} {k : Nat} {μ ν : bwM} (h : bwL st k μ) (h25 : ν.1 30 25 = μ.1 30 25) (hf : ∀ c, 48 ≤ c → c ≤ 52 → ν.1 c = μ.1 c) : bwL st k ν := by
  obtain ⟨h1, h2, h3, h4⟩ := h
  refine ⟨h1, h25.trans h2, h3, fun i hi => lg_move (h3 i (by omega)) (h4 i hi) ?_ ?_ ?_ ?_ (fun q hq => ?_)⟩
  · rw [hf 48 (by omega) (by omega)]
  · rw [hf 49 (by omega) (by omega)]
  · rw [hf 50 (by omega) (by omega)]
  · rw [hf 51 (by omega) (by omega)]
  · rw [hf 52 (by omega) (by omega)]
theorem inv_q {st : Nat → bwS} {ac : Nat → bwOp} {k f m : Nat} {μ ν π : bwM} {t : Option (Int × Nat)} (h : bwI st ac k f m μ) (hc : bw_cq μ ν t) (hm : bw_mq ν π t) : bwI st ac k f m π := by
  obtain ⟨h1, h2, h3, h4, h5, h6, h7, h8, h9⟩ := h
  have e : ∀ c, c < 24 → π.1 c = μ.1 c := fun c hc' => (hm.1 c (by omega) (by omega)).trans (hc.1 c (by omega))
  have e2 : ∀ c, 30 < c → c < 40 ∨ c = 42 ∨ 47 < c → π.1 c = μ.1 c := fun c h1 h2 => (hm.1 c (by omega) (by omega)).trans (hc.1 c (by omega))
  have e3 : ∀ j, j ≠ 24 → π.1 30 j = μ.1 30 j := fun j hj => (hm.2.1 j hj).trans (by rw [hc.1 30 (by omega)])
  refine ⟨fr_h h1 (fun c _ h2 => e c h2), fr_c h2 (fun i hi => e _ (by omega)), fr_r h3 (fun i hi h0 => e2 _ (by omega) (by omega)) (e3 1 (by omega)) (e3 10 (by omega)), fr_l h4 (e3 25 (by omega)) (fun c h1 h2 => e2 c (by omega) (by omega)), ?_, h6, ?_, ?_, fun x hx => ?_⟩
  · have m0 : π.2 0 = ν.2 0 := hm.2.2.1 0 (by omega) (by omega)
    have c30 : ν.2 30 = μ.2 30 := hc.2.1 30 (by omega) (by omega)
    cases t with
    | none =>
      have hc3 := hc.2.2
      have hm3 := hm.2.2.2
      dsimp only at hc3 hm3
      rw [m0, hc3.1, hc3.2, hm3.1, hm3.2, c30]
      exact h5
    | some ab =>
      obtain ⟨A, b⟩ := ab
      have hc3 := hc.2.2
      have hm3 := hm.2.2.2
      dsimp only at hc3 hm3
      rw [m0, hc3.1, hc3.2, hm3.1, hm3.2]
      exact ⟨rfl, rfl⟩
  · rw [e 0 (by omega)]; exact h7
  · rw [e3 18 (by omega)]; exact h8
  · rw [e 1 (by omega), e2 42 (by omega) (by omega)]; exact h9 x hx
theorem inv_same {st : Nat → bwS} {ac : Nat → bwOp} {k f m : Nat} {μ : bwM} (h : bwI st ac k f m μ) : bwInv μ := ⟨st, ac, k, f, m, h⟩
theorem inv_ok {st : Nat → bwS} {ac : Nat → bwOp} {k f m : Nat} {μ : bwM} (h : bwI st ac k f m μ) : bwOK (st k) := h.1.2.2.2.2.1 k (Nat.le_refl _)
/-- both answer alike and change nothing but by questions -/
theorem J_q {d mc mm : Nat} {ca ma : List bwV} {μ ν π : bwM} {st : Nat → bwS} {ac : Nat → bwOp} {k f m : Nat} (h : bwI st ac k f m μ) {r : Int32} {t : Option (Int × Nat)} (h1 : bw_call (d + 40) mc (.inr (.inr 0) :: ca) μ = some (some (.inl r), ν)) (hc : bw_cq μ ν t) (h2 : bw_call (d + 40) mm (.inr (.inr 30) :: ma) ν = some (some (.inl r), π)) (hm : bw_mq ν π t) : bwJ d mc mm ca ma μ := ⟨r, ν, π, h1, h2, inv_same (inv_q h hc hm)⟩
theorem cq_refl (μ : bwM) : bw_cq μ μ none := cq_S (fS_refl μ)
theorem mq_refl (μ : bwM) : bw_mq μ μ none := mq_G (fG_refl μ)
theorem cq_r {S : bwS} {μ ν : bwM} {t : Option (Int × Nat)} (h : bw_cq μ ν t) (hR : bwR' S μ) : bwR' S ν := fr_r hR (fun i hi h0 => h.1 _ (by omega)) (by rw [h.1 30 (by omega)]) (by rw [h.1 30 (by omega)])
theorem J_same {d mc mm : Nat} {ca ma : List bwV} {μ : bwM} (h : bwInv μ) {r : Int32} (h1 : bw_call (d + 40) mc (.inr (.inr 0) :: ca) μ = some (some (.inl r), μ)) (h2 : bw_call (d + 40) mm (.inr (.inr 30) :: ma) μ = some (some (.inl r), μ)) : bwJ d mc mm ca ma μ := ⟨r, μ, μ, h1, h2, h⟩
theorem bq_ge0 : (0 : Int32) ≤ 0 := by decide
theorem bq_m5 : ¬ (0 : Int32) ≤ -5 := by decide
theorem bq_m4 : ¬ (0 : Int32) ≤ -4 := by decide
/-- the end of a question that tells: all, tell -/
theorem sM_tells (d : Nat) {S : bwS} (hS : bwOK S) (hs : g_sound S) (h0 : ¬ g_SUM S = 0) {μ ν : bwM} (hf : bw_fG μ ν) (hR : bwR' S μ) {A : Int} (h1 : -2 ^ 63 < A) (h2 : A < 2 ^ 63) : ∃ ρ π, bw_call (d + 3) 111 [.inr (.inr 30)] ν = some (some (.inr (.inl (lN (g_SUM S)))), ρ) ∧ bw_call (d + 3) 113 [.inr (.inr 30), .inr (.inl (lI A)), .inr (.inl (lN (g_SUM S)))] ρ = some (some (.inl 1), π) ∧ bw_mq μ π (some (A, g_SUM S)) := by
  have hle := g_SUM_le hS hs
  obtain ⟨ρ, e1, e2⟩ := sM_all d hS (fG_r hf hR)
  exact ⟨ρ, _, e1, sM_tell (d + 1) h1 h2 (by omega) (by omega) ρ, mq_tell (fG_trans hf (fG_E e2)) A (g_SUM S)⟩
/-- ask -/
theorem J_ask (d : Nat) {μ : bwM} (h : bwInv μ) (x y : Int32) : bwJ d 57 118 [.inl x, .inl y] [.inl x, .inl y] μ := by
  obtain ⟨st, ac, k, f, m, h⟩ := h
  have hS := inv_ok h
  have hC := h.2.1
  have hR := h.2.2.1
  by_cases hv : bw_isV (st k) x y
  · obtain ⟨a, b, ha, hb, rfl, rfl⟩ := hv
    have hn := ok_n hS
    have h4 := ok_v4 hS ha
    by_cases hs : g_sound (st k)
    · obtain ⟨ν, ord, e1, e2, e3, e4⟩ := sB_trouble (d + 19) hS hC hs
      have hle := g_SUM_le hS hs
      by_cases h0 : g_SUM (st k) = 0
      · have hRν := cq_r (cq_S e4) hR
        obtain ⟨π, f1, f2⟩ := sM_refused (d + 35) hS hRν hs
        rw [if_pos h0] at e1 f1
        refine J_q h (r := -5) (t := none) ?_ (cq_S e4) ?_ (mq_G (fG_E f2))
        · rw [qX3_ask, sW_hasV _ (Or.inl rfl) hS hC ha hb, bq_I, if_neg bq_ne10, e1, bq_I, if_neg (by decide)]
        · rw [qX4_ask, sM_isV _ hS hRν ha hb, bq_I, if_neg bq_ne10, f1, bq_I, if_neg bq_m5]
      · have hsh := g_SH_le (st k) none (some (a, b))
        have hsh2 := g_SH_none (st k) (some (a, b))
        have htB := sB_tell (d + 37) (A := ((g_SH (st k) none (some (a, b)) : Nat) : Int)) (b := g_SUM (st k)) (by omega) (by omega) (by omega) (by omega) ν
        have hcq := cq_tell e4 ((g_SH (st k) none (some (a, b)) : Nat) : Int) (g_SUM (st k))
        have hRν := cq_r hcq hR
        obtain ⟨π, f1, f2⟩ := sM_refused (d + 35) hS hRν hs
        rw [if_neg h0] at e1 f1
        obtain ⟨ρ, g1, g2⟩ := sM_sum (d + 37) hS (p := some (a, b)) (q := none) (x1 := nI a) (x2 := nI b) (x3 := -1) (x4 := 0) ⟨rfl, rfl, ha, hb⟩ rfl (fE_r f2 hRν)
        obtain ⟨τ, υ, k1, k2, k3⟩ := sM_tells (d + 36) hS hs h0 (fG_E (fE_trans f2 g2)) hRν (A := ((g_SH (st k) none (some (a, b)) : Nat) : Int)) (by omega) (by omega)
        refine J_q h (r := 1) ?_ hcq ?_ k3
        · rw [qX3_ask, sW_hasV _ (Or.inl rfl) hS hC ha hb, bq_I, if_neg bq_ne10, e1, bq_I, if_pos rfl, sB_slot, bq_I, if_pos ((bq_ii (by omega)).2 (by omega)), nI_clamp (by omega), e3.2.1 a b ha (by omega), met_sh e2 (hok_none _), e3.1, met_sum e2, lI_N (g_SH _ _ _), htB, bq_V]
        · rw [qX4_ask, sM_isV _ hS hRν ha hb, bq_I, if_neg bq_ne10, f1, bq_I, if_pos bq_ge0, g1, bq_L, k1, bq_L, show bp_S (fun c => if (g_tk (some (a, b)) c && g_tk none c) = true then g_lik (st k) c else 0) (g_all (st k)) = g_SH (st k) none (some (a, b)) from hsh2.symm, lI_N (g_SH _ _ _), k2, bq_I]
    · refine J_same (inv_same h) (r := -4) ?_ ?_
      · rw [qX3_ask, sW_hasV _ (Or.inl rfl) hS hC ha hb, bq_I, if_neg bq_ne10, sB_rough _ hS hC hs, bq_I, if_neg (by decide)]
      · rw [qX4_ask, sM_isV _ hS hR ha hb, bq_I, if_neg bq_ne10, sM_ref_rough _ hS hR hs, bq_I, if_neg bq_m4]
  · refine J_same (inv_same h) (r := -1) ?_ ?_
    · rw [qX3_ask, sW_hasNV _ (Or.inl rfl) hS hC hv, bq_I, if_pos rfl]
    · rw [qX4_ask, sM_isNV _ hS hR hv, bq_I, if_pos rfl]
