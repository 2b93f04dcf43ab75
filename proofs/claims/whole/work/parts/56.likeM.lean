/-! PURE: the reference's ranking. -/
theorem bp_copyQ {R : Type} (E : Nat → bwM → R) (Q : bwM → Prop) (a sa b db n : Nat) (hd : a ≠ b ∨ db ≤ sa ∨ sa + n ≤ db) (hQ : ∀ μ j x, Q μ → Q (bw_si μ b j x)) (hstep : ∀ i μ, i < n → Q μ → E i μ = E (i + 1) (bw_si μ b (db + i) (μ.1 a (sa + i)))) (i : Nat) (hi : i ≤ n) (μ : bwM) (hq : Q μ) : ∃ ν : bwM, E i μ = E n ν ∧ Q ν ∧ ν.2 = μ.2 ∧ (∀ c j, ¬ (c = b ∧ db + i ≤ j ∧ j < db + n) → ν.1 c j = μ.1 c j) ∧ (∀ q, i ≤ q → q < n → ν.1 b (db + q) = μ.1 a (sa + q)) := by
  induction hj : n - i generalizing i μ with
  | zero =>
    have : i = n := by omega
    subst this
    exact ⟨μ, rfl, hq, rfl, fun _ _ _ => rfl, fun q h h' => by omega⟩
  | succ j ih =>
    obtain ⟨ν, e1, e0, e2, e3, e4⟩ := ih (i + 1) (by omega) (bw_si μ b (db + i) (μ.1 a (sa + i))) (hQ _ _ _ hq) (by omega)
    refine ⟨ν, (hstep i μ (by omega) hq).trans e1, e0, e2, fun c j hcj => ?_, fun q hq' hq2 => ?_⟩
    · rw [e3 c j (by omega), bq_sin _ _ (by omega)]
    · by_cases hqi : q = i
      · subst hqi
        rw [e3 _ _ (by omega), bq_sie]
      · rw [e4 q (by omega) hq2, bq_sin _ _ (by omega)]
/-- an entry of the reference in memory: its likelihood, its whole -/
def bw_rn (S : bwS) (μ : bwM) (j : Nat) (e : Nat × Nat) : Prop := ∃ c : Nat → Nat, e = (g_lik S c, g_num (gN S) c) ∧ (∀ x, x < gN S → c x < gV S x) ∧ μ.2 43 j = lN (g_lik S c) ∧ ∀ x, x < gN S → μ.1 44 (12 * j + x) = nI (c x)
theorem rn_sm {S : bwS} (hS : bwOK S) {μ : bwM} {j : Nat} {e : Nat × Nat} (h : bw_rn S μ j e) : e.1 < 2 ^ 63 ∧ μ.2 43 j = lN e.1 := by
  obtain ⟨c, rfl, h2, h3, _⟩ := h
  have := g_lik_le hS h2
  exact ⟨by show g_lik S c < _; omega, h3⟩
theorem rn_move {S : bwS} {μ ν : bwM} {i j : Nat} {e : Nat × Nat} (h : bw_rn S μ j e) (h1 : ν.2 43 i = μ.2 43 j) (h2 : ∀ x, x < gN S → ν.1 44 (12 * i + x) = μ.1 44 (12 * j + x)) : bw_rn S ν i e := by
  obtain ⟨c, k1, k2, k3, k4⟩ := h
  exact ⟨c, k1, k2, h1.trans k3, fun x hx => (h2 x hx).trans (k4 x hx)⟩
/-- what ranking may change -/
def bw_fR (μ ν : bwM) : Prop := (∀ c, c ≠ 44 → ν.1 c = μ.1 c) ∧ (∀ c, c ≠ 43 → ν.2 c = μ.2 c)
theorem fR_trans {μ ν π : bwM} (h : bw_fR μ ν) (h' : bw_fR ν π) : bw_fR μ π := ⟨fun c hc => (h'.1 c hc).trans (h.1 c hc), fun c hc => (h'.2 c hc).trans (h.2 c hc)⟩
theorem fR_r {S : bwS} {μ ν : bwM} (h : bw_fR μ ν) (hR : bwR' S μ) : bwR' S ν := fr_r hR (fun i hi _ => h.1 _ (by omega)) (by rw [h.1 30 (by omega)]) (by rw [h.1 30 (by omega)])
/-- the reference compares likelihoods alone -/
def bp_bR (e f : Nat × Nat) : Bool := decide (f.1 < e.1)
theorem bq_12 (j x : Nat) : (12 : Int32) * nI j + nI x = nI (12 * j + x) := by rw [show (12 : Int32) = nI 12 from rfl, pk_mul, nI_add]
theorem sM_ins_end (d : Nat) {S : bwS} (hS : bwOK S) (x1 x2 : Int32) {c : Nat → Nat} (hc : ∀ x, x < gN S → c x < gV S x) {p : Nat} (hp : p < 10) (μ : bwM) (hR : bwR' S μ) (hw : bw_wh S μ c) (h14 : μ.2 30 14 = lN (g_lik S c)) : ∃ ν, eX4_insert d 95 [some (.inr (.inr 30)), some (.inl x1), some (.inl x2), some (.inl (nI p)), none] [] μ = (if x2 < x1 then some (some (.inl x1), ν) else some (some (.inl (x1 + (1 : Int32))), ν)) ∧ bw_rn S ν p (g_lik S c, g_num (gN S) c) ∧ bw_fR μ ν ∧ (∀ j, j ≠ p → ν.2 43 j = μ.2 43 j ∧ ∀ x, x < gN S → ν.1 44 (12 * j + x) = μ.1 44 (12 * j + x)) := by
  have hn := ok_n hS
  have hcp := bp_copyQ (fun i μ => eX4_insert d 108 [some (.inr (.inr 30)), some (.inl x1), some (.inl x2), some (.inl (nI p)), some (.inl (nI i))] [] μ) (fun μ => μ.1 30 1 = nI (gN S)) 41 0 44 (12 * p) (gN S) (Or.inl (by omega)) (fun μ j x h => by rw [bq_sin _ _ (by omega)]; exact h) (fun i τ hi hq => by
    rw [qX4_insert_108, hq, if_neg (nI_ge (by omega) (by omega)), if_pos ((bq_ii (by omega)).2 (by omega)), bq_12, if_pos ((bq_ii (by omega)).2 (by omega)), nI_clamp (by omega), nI_clamp (by omega), nI_1, Nat.zero_add]) 0 (by omega) (bw_sl μ 43 p (lN (g_lik S c))) hR.2.1
  obtain ⟨ν, e1, e0, e2, e3, e4⟩ := hcp
  refine ⟨ν, ?_, ⟨c, rfl, hc, ?_, fun x hx => ?_⟩, ⟨fun cc hcc => ?_, fun cc hcc => ?_⟩, fun j hj => ⟨?_, fun x hx => ?_⟩⟩
  · rw [qX4_insert_95, if_pos ((bq_ii (by omega)).2 hp), nI_clamp (by omega), h14, show (0 : Int32) = nI 0 from rfl]
    refine Eq.trans e1 ?_
    show eX4_insert d 108 _ [] ν = _
    rw [qX4_insert_108, e0, if_pos (nI_le (by omega) (by omega))]
  · rw [e2, bq_sle]
  · have h4 := e4 x (by omega) hx
    rw [Nat.zero_add] at h4
    exact h4.trans (hw x hx)
  · funext j; exact e3 cc j (by omega)
  · rw [e2]; funext j; rw [bq_sl2, if_neg (by omega)]
  · rw [e2, bq_sl2, if_neg (by omega)]
  · exact e3 _ _ (by omega)
theorem sM_ins_go (d : Nat) {S : bwS} (hS : bwOK S) (x1 x2 : Int32) {c : Nat → Nat} (hc : ∀ x, x < gN S → c x < gV S x) {l : List (Nat × Nat)} (hl : l.length ≤ 9) (p : Nat) (hp : p ≤ l.length) (o4 : Option bwV) (μ : bwM) (hR : bwR' S μ) (hw : bw_wh S μ c) (h14 : μ.2 30 14 = lN (g_lik S c)) (h1 : ∀ j (h : j < l.length), j < p → bw_rn S μ j l[j]) (h2 : ∀ j (h : j < l.length), p ≤ j → bw_rn S μ (j + 1) l[j]) : ∃ ν : bwM, eX4_insert d 11 [some (.inr (.inr 30)), some (.inl x1), some (.inl x2), some (.inl (nI p)), o4] [] μ = (if x2 < x1 then some (some (.inl x1), ν) else some (some (.inl (x1 + (1 : Int32))), ν)) ∧ (∀ j (h : j < l.length), j < bp_pl (fun j => bp_bR (g_lik S c, g_num (gN S) c) (l.getD j (0, 0))) p → bw_rn S ν j l[j]) ∧ bw_rn S ν (bp_pl (fun j => bp_bR (g_lik S c, g_num (gN S) c) (l.getD j (0, 0))) p) (g_lik S c, g_num (gN S) c) ∧ (∀ j (h : j < l.length), bp_pl (fun j => bp_bR (g_lik S c, g_num (gN S) c) (l.getD j (0, 0))) p ≤ j → bw_rn S ν (j + 1) l[j]) ∧ bw_fR μ ν := by
  have hn := ok_n hS
  have hLc := g_lik_le hS hc
  induction p generalizing μ o4 with
  | zero =>
    obtain ⟨ν, e1, e2, e3, e4⟩ := sM_ins_end d hS x1 x2 hc (p := 0) (by omega) μ hR hw h14
    refine ⟨ν, ?_, fun j h h' => (by have : j < 0 := h'; omega), e2, fun j h _ => ?_, e3⟩
    · rw [qX4_insert_11, if_pos (by decide)]; exact e1
    · exact rn_move (h2 j h (by omega)) (e4 (j + 1) (by omega)).1 (e4 (j + 1) (by omega)).2
  | succ p ih =>
    have hp' : p < l.length := by omega
    have hen := h1 p hp' (by omega)
    obtain ⟨hsm, h43⟩ := rn_sm hS hen
    rw [qX4_insert_11, if_neg (nI_nle (by omega) (by omega)), nI_pred]
    simp only [bq_it (show p < 10 by omega) (by decide), bq_it (show p + 1 < 10 by omega) (by decide)]
    rw [nI_clamp (n := p) (by omega), nI_clamp (n := p + 1) (by omega), h43, h14]
    unfold bp_pl
    rw [getD_lt hp']
    by_cases hb : bp_bR (g_lik S c, g_num (gN S) c) l[p] = true
    · have hlt : l[p].1 < g_lik S c := by
        unfold bp_bR at hb
        exact of_decide_eq_true hb
      rw [if_pos hb, if_neg (fun hh => by have := (pk_lLE (by omega) (by omega)).1 ((lg_cmp_ge _ _).1 hh); omega), qX4_insert_45]
      have hcp := bp_copyQ (fun i μ => eX4_insert d 48 [some (.inr (.inr 30)), some (.inl x1), some (.inl x2), some (.inl (nI (p + 1))), some (.inl (nI i))] [] μ) (fun μ => μ.1 30 1 = nI (gN S)) 44 (12 * p) 44 (12 * (p + 1)) (gN S) (Or.inr (Or.inr (by omega))) (fun μ j x h => by rw [bq_sin _ _ (by omega)]; exact h) (fun i τ hi hq => by
        rw [qX4_insert_48, hq, if_neg (nI_ge (by omega) (by omega)), nI_pred, bq_12, bq_12, if_pos ((bq_ii (by omega)).2 (by omega)), if_pos ((bq_ii (by omega)).2 (by omega)), nI_clamp (by omega), nI_clamp (by omega), qX4_insert_83, nI_1]) 0 (by omega) (bw_sl μ 43 (p + 1) (lN l[p].1)) hR.2.1
      obtain ⟨ν, e1, e0, e2, e3, e4⟩ := hcp
      have hfR : bw_fR μ ν := ⟨fun cc hcc => funext (fun j => e3 cc j (by omega)), fun cc hcc => by rw [e2]; funext j; rw [bq_sl2, if_neg (by omega)]⟩
      have hold : ∀ j, j ≠ p + 1 → ν.2 43 j = μ.2 43 j ∧ ∀ x, x < gN S → ν.1 44 (12 * j + x) = μ.1 44 (12 * j + x) := fun j hj => ⟨by rw [e2, bq_sl2, if_neg (by omega)], fun x hx => e3 _ _ (by omega)⟩
      obtain ⟨τ, f1, f2, f3, f4, f5⟩ := ih (by omega) (some (.inl (nI (gN S)))) ν (fR_r hfR hR) (fun x hx => by rw [hfR.1 41 (by omega)]; exact hw x hx) (by rw [hfR.2 30 (by omega)]; exact h14) (fun j h h' => rn_move (h1 j h (by omega)) (hold j (by omega)).1 (hold j (by omega)).2) (fun j h h' => by
        by_cases hjp : j = p
        · subst hjp
          exact rn_move hen (by rw [e2, bq_sle, h43]) (fun x hx => e4 x (by omega) hx)
        · exact rn_move (h2 j h (by omega)) (hold (j + 1) (by omega)).1 (hold (j + 1) (by omega)).2)
      refine ⟨τ, ?_, f2, f3, f4, fR_trans hfR f5⟩
      rw [show (0 : Int32) = nI 0 from rfl]
      refine Eq.trans e1 ?_
      show eX4_insert d 48 _ [] ν = _
      rw [qX4_insert_48, e0, if_pos (nI_le (by omega) (by omega)), pk_m1]
      exact f1
    · have hnlt : ¬ l[p].1 < g_lik S c := fun hh => hb (by unfold bp_bR; exact decide_eq_true hh)
      rw [if_neg hb, if_pos ((lg_cmp_ge _ _).2 ((pk_lLE (by omega) (by omega)).2 (by omega)))]
      obtain ⟨ν, e1, e2, e3, e4⟩ := sM_ins_end d hS x1 x2 hc (p := p + 1) (by omega) μ hR hw h14
      refine ⟨ν, e1, fun j h h' => ?_, e2, fun j h h' => ?_, e3⟩
      · exact rn_move (h1 j h h') (e4 j (by omega)).1 (e4 j (by omega)).2
      · exact rn_move (h2 j h h') (e4 (j + 1) (by omega)).1 (e4 (j + 1) (by omega)).2
/-- the reference's list in memory -/
def bw_rl (S : bwS) (μ : bwM) (l : List (Nat × Nat)) : Prop := ∀ j (h : j < l.length), bw_rn S μ j l[j]
theorem bp_in_rn {S : bwS} {μ : bwM} {b : Nat × Nat → Bool} {e : Nat × Nat} {l : List (Nat × Nat)} (h1 : ∀ j (h : j < l.length), j < bp_pl (fun j => b (l.getD j (0, 0))) l.length → bw_rn S μ j l[j]) (h2 : bw_rn S μ (bp_pl (fun j => b (l.getD j (0, 0))) l.length) e) (h3 : ∀ j (h : j < l.length), bp_pl (fun j => b (l.getD j (0, 0))) l.length ≤ j → bw_rn S μ (j + 1) l[j]) : bw_rl S μ (bp_in b e l) := by
  intro j h
  have hlen := bp_in_len b e l
  have hpl := bp_pl_le (fun j => b (l.getD j (0, 0))) l.length
  unfold bp_in at h ⊢
  rw [List.getElem_insertIdx]
  by_cases k1 : j < bp_pl (fun j => b (l.getD j (0, 0))) l.length
  · rw [dif_pos k1]; exact h1 j (by omega) k1
  · rw [dif_neg k1]
    by_cases k2 : j = bp_pl (fun j => b (l.getD j (0, 0))) l.length
    · rw [dif_pos k2]
      rw [k2]; exact h2
    · rw [dif_neg k2]
      have hjl : j - 1 < l.length := by
        unfold bp_in at hlen
        omega
      have := h3 (j - 1) hjl (by omega)
      rw [show j - 1 + 1 = j by omega] at this
      exact this
theorem bR_bef {e f : Nat × Nat} (h : f.2 < e.2) : bp_bR e f = bp_bef e f := by
  unfold bp_bR bp_bef
  rw [show decide (e.2 < f.2) = false from decide_eq_false (by omega), Bool.and_false, Bool.or_false]
theorem pl_congr {b b' : Nat → Bool} (p : Nat) (h : ∀ j, j < p → b j = b' j) : bp_pl b p = bp_pl b' p := by
  induction p with
  | zero => rfl
  | succ p ih =>
    rw [bp_pl, bp_pl, h p (by omega), ih (fun j hj => h j (by omega))]
theorem in_congr {e : Nat × Nat} {l : List (Nat × Nat)} (h : ∀ f, f ∈ l → f.2 < e.2) : bp_in (bp_bR e) e l = bp_in (bp_bef e) e l := by
  unfold bp_in
  rw [pl_congr (b' := fun j => bp_bef e (l.getD j (0, 0))) l.length (fun j hj => by show bp_bR e (l.getD j (0, 0)) = bp_bef e (l.getD j (0, 0)); rw [getD_lt hj]; exact bR_bef (h _ (List.getElem_mem hj)))]
/-- insert: the list has at most k + 1 -/
theorem sM_insert (d : Nat) {S : bwS} (hS : bwOK S) {k : Nat} (hk : k ≤ 9) {c : Nat → Nat} (hc : ∀ x, x < gN S → c x < gV S x) {l : List (Nat × Nat)} (hl : l.length ≤ k + 1) (hnum : ∀ f, f ∈ l → f.2 < g_num (gN S) c) {μ : bwM} (hR : bwR' S μ) (hw : bw_wh S μ c) (h14 : μ.2 30 14 = lN (g_lik S c)) (hrl : bw_rl S μ l) (hgo : k < l.length → bp_bef (g_lik S c, g_num (gN S) c) (l.getD (l.length - 1) (0, 0)) = true) : ∃ ν, bw_call (d + 1) 122 [.inr (.inr 30), .inl (nI l.length), .inl (nI k)] μ = some (some (.inl (nI (bp_ins (k + 1) (g_lik S c, g_num (gN S) c) l).length)), ν) ∧ bw_rl S ν (bp_ins (k + 1) (g_lik S c, g_num (gN S) c) l) ∧ bw_fR μ ν := by
  unfold bp_ins
  rw [if_neg (by omega), qX4_insert]
  by_cases hlk : l.length < k + 1
  · obtain ⟨ν, e1, e2, e3, e4, e5⟩ := sM_ins_go d hS (nI l.length) (nI k) hc (l := l) (by omega) l.length (Nat.le_refl _) none μ hR hw h14 (fun j h _ => hrl j h) (fun j h h' => by omega)
    have hnlt : ¬ nI k < nI l.length := nI_nlt (by omega) (by omega)
    rw [if_neg hnlt, qX4_insert_10, if_pos hlk]
    rw [if_neg hnlt, nI_1] at e1
    rw [← in_congr hnum, bp_in_len]
    exact ⟨ν, e1, bp_in_rn e2 e3 e4, e5⟩
  · have hkl : l.length = k + 1 := by omega
    have hdl : l.dropLast.length = k := by rw [List.length_dropLast]; omega
    have hdg : ∀ j (h : j < l.dropLast.length), l.dropLast[j] = l[j]'(by omega) := fun j h => List.getElem_dropLast h
    obtain ⟨ν, e1, e2, e3, e4, e5⟩ := sM_ins_go d hS (nI l.length) (nI k) hc (l := l.dropLast) (by omega) l.dropLast.length (Nat.le_refl _) none μ hR hw h14 (fun j h _ => by rw [hdg j h]; exact hrl j _) (fun j h h' => by omega)
    have hlt : nI k < nI l.length := nI_lt (by omega) (by omega)
    rw [if_pos hlt, qX4_insert_10, if_neg hlk, if_pos (hgo (by omega))]
    rw [if_pos hlt, hdl] at e1
    rw [← in_congr (fun f hf => hnum f (List.dropLast_subset l hf)), bp_in_len, hdl, ← hkl]
    exact ⟨ν, e1, bp_in_rn e2 e3 e4, e5⟩
