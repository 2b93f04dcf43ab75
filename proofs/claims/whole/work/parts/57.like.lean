/-! PURE: likeliest. -/
/-- what a whole does to a ranking -/
def g_rs (S : bwS) (w : Nat) (l : List (Nat × Nat)) (c : Nat → Nat) : List (Nat × Nat) := if 0 < g_lik S c then bp_ins w (g_lik S c, g_num (gN S) c) l else l
theorem ins_len {w : Nat} {e : Nat × Nat} {l : List (Nat × Nat)} (h : l.length ≤ w) : (bp_ins w e l).length ≤ w := by
  unfold bp_ins
  by_cases hw : w = 0
  · rw [if_pos hw]; exact h
  · rw [if_neg hw]
    by_cases hl : l.length < w
    · rw [if_pos hl, bp_in_len]; omega
    · rw [if_neg hl]
      split
      · rw [bp_in_len, List.length_dropLast]; omega
      · exact h
theorem ins_mem {w : Nat} {e f : Nat × Nat} {l : List (Nat × Nat)} (h : f ∈ bp_ins w e l) : f = e ∨ f ∈ l := by
  unfold bp_ins at h
  by_cases hw : w = 0
  · rw [if_pos hw] at h; exact Or.inr h
  · rw [if_neg hw] at h
    by_cases hl : l.length < w
    · rw [if_pos hl] at h; exact bp_in_mem h
    · rw [if_neg hl] at h
      split at h
      · rcases bp_in_mem h with h' | h'
        · exact Or.inl h'
        · exact Or.inr (List.dropLast_subset l h')
      · exact Or.inr h
def bw_fRE (μ ν : bwM) : Prop := (∀ c, c ≠ 41 → c ≠ 44 → ν.1 c = μ.1 c) ∧ (∀ c j, ¬ (c = 30 ∧ j = 14) → c ≠ 43 → ν.2 c j = μ.2 c j)
theorem fRE_E {μ ν : bwM} (h : bw_fE μ ν) : bw_fRE μ ν := ⟨fun c h1 _ => h.1 c h1, fun c j h1 _ => h.2 c j h1⟩
theorem fRE_R {μ ν : bwM} (h : bw_fR μ ν) : bw_fRE μ ν := ⟨fun c _ h1 => h.1 c h1, fun c j _ h1 => by rw [h.2 c h1]⟩
theorem fRE_trans {μ ν π : bwM} (h : bw_fRE μ ν) (h' : bw_fRE ν π) : bw_fRE μ π := ⟨fun c h1 h2 => (h'.1 c h1 h2).trans (h.1 c h1 h2), fun c j h1 h2 => (h'.2 c j h1 h2).trans (h.2 c j h1 h2)⟩
theorem fRE_r {S : bwS} {μ ν : bwM} (h : bw_fRE μ ν) (hR : bwR' S μ) : bwR' S ν := fr_r hR (fun i hi _ => h.1 _ (by omega) (by omega)) (by rw [h.1 30 (by omega) (by omega)]) (by rw [h.1 30 (by omega) (by omega)])
theorem rl_E {S : bwS} {μ ν : bwM} {l : List (Nat × Nat)} (h : bw_fE μ ν) (hrl : bw_rl S μ l) : bw_rl S ν l := fun j hj => rn_move (hrl j hj) (h.2 43 j (by omega)) (fun x _ => by rw [h.1 44 (by omega)])
theorem sM_like_body (d : Nat) {S : bwS} (hS : bwOK S) {k : Nat} (hk : k ≤ 9) {c : Nat → Nat} (hc : ∀ x, x < gN S → c x < gV S x) {l : List (Nat × Nat)} (hl : l.length ≤ k + 1) (hnum : ∀ f, f ∈ l → f.2 < g_num (gN S) c) {μ : bwM} (hR : bwR' S μ) (hw : bw_wh S μ c) (hrl : bw_rl S μ l) : ∃ ν, eX4_likeliest (d + 1) 30 [some (.inr (.inr 30)), some (.inl (nI k)), some (.inl (nI l.length)), some (.inl 1), none] [] μ = eX4_likeliest (d + 1) 73 [some (.inr (.inr 30)), some (.inl (nI k)), some (.inl (nI (g_rs S (k + 1) l c).length)), some (.inl 1), none] [] ν ∧ bw_rl S ν (g_rs S (k + 1) l c) ∧ bw_wh S ν c ∧ bw_fRE μ ν := by
  have hle := g_lik_le hS hc
  have hE := fE_sl μ (lN (g_lik S c))
  have hR1 := fE_r hE hR
  have hrl1 := rl_E hE hrl
  have h14 : (bw_sl μ 30 14 (lN (g_lik S c))).2 30 14 = lN (g_lik S c) := bq_sle _ _ _ _
  rw [qX4_likeliest_30, if_neg bq_ne10, sM_weigh d hS hR hc hw, bq_V, h14, show Int64.ofNat 0 = lN 0 from rfl]
  unfold g_rs
  by_cases h0 : 0 < g_lik S c
  · rw [if_pos h0, if_neg (fun hh => by have := (pk_lLE (by omega) (by omega)).1 ((lg_cmp_le _ _).1 hh); omega)]
    have go : (k < l.length → bp_bef (g_lik S c, g_num (gN S) c) (l.getD (l.length - 1) (0, 0)) = true) → ∃ ν, eX4_likeliest (d + 1) 66 [some (.inr (.inr 30)), some (.inl (nI k)), some (.inl (nI l.length)), some (.inl 1), none] [] (bw_sl μ 30 14 (lN (g_lik S c))) = eX4_likeliest (d + 1) 73 [some (.inr (.inr 30)), some (.inl (nI k)), some (.inl (nI (bp_ins (k + 1) (g_lik S c, g_num (gN S) c) l).length)), some (.inl 1), none] [] ν ∧ bw_rl S ν (bp_ins (k + 1) (g_lik S c, g_num (gN S) c) l) ∧ bw_wh S ν c ∧ bw_fRE μ ν := fun hgo => by
      obtain ⟨ν, e1, e2, e3⟩ := sM_insert d hS hk hc hl hnum hR1 hw h14 hrl1 hgo
      refine ⟨ν, ?_, e2, fun x hx => by rw [e3.1 41 (by omega)]; exact hw x hx, fRE_trans (fRE_E hE) (fRE_R e3)⟩
      rw [qX4_likeliest_66, e1, bq_I]
    by_cases hlk : l.length ≤ k
    · rw [if_pos (nI_le hlk (by omega))]
      exact go (fun h => by omega)
    · have hkl : l.length = k + 1 := by omega
      have hkk : k < l.length := by omega
      obtain ⟨hsm, h43⟩ := rn_sm hS (hrl1 k hkk)
      have hgd : l.getD (l.length - 1) (0, 0) = l[k] := by rw [show l.length - 1 = k by omega, getD_lt hkk]
      rw [if_neg (nI_ge (by omega) (by omega)), if_pos ((bq_ii (by omega)).2 (by omega)), nI_clamp (by omega), h43]
      have hbR : bp_bR (g_lik S c, g_num (gN S) c) l[k] = bp_bef (g_lik S c, g_num (gN S) c) l[k] := bR_bef (hnum _ (List.getElem_mem hkk))
      by_cases hlt : l[k].1 < g_lik S c
      · rw [if_neg (fun hh => by have := (pk_lLE (by omega) (by omega)).1 ((lg_cmp_le _ _).1 hh); omega)]
        exact go (fun _ => by rw [hgd, ← hbR]; unfold bp_bR; exact decide_eq_true hlt)
      · rw [if_pos ((lg_cmp_le _ _).2 ((pk_lLE (by omega) (by omega)).2 (by omega)))]
        have hins : bp_ins (k + 1) (g_lik S c, g_num (gN S) c) l = l := by
          unfold bp_ins
          rw [if_neg (by omega), if_neg (by omega), hgd, if_neg]
          rw [← hbR]
          unfold bp_bR
          exact fun h => hlt (of_decide_eq_true h)
        rw [hins]
        exact ⟨_, rfl, hrl1, hw, fRE_E hE⟩
  · rw [if_neg h0, if_pos ((lg_cmp_le _ _).2 ((pk_lLE (by omega) (by omega)).2 (by omega)))]
    exact ⟨_, rfl, hrl1, hw, fRE_E hE⟩
theorem sM_like_go (d : Nat) {S : bwS} (hS : bwOK S) {k : Nat} (hk : k ≤ 9) (t : List (Nat → Nat)) (c b : Nat → Nat) (hpt : bp_pt (bp_nxt (gV S) (gN S)) c t b) (hb : bp_nxt (gV S) (gN S) b = none) (hall : ∀ c', c' ∈ c :: t → ∀ y, y < gN S → c' y < gV S y) (l : List (Nat × Nat)) (hl : l.length ≤ k + 1) (hnum : ∀ f, f ∈ l → f.2 < g_num (gN S) c) (μ : bwM) (hR : bwR' S μ) (hw : bw_wh S μ c) (hrl : bw_rl S μ l) : ∃ ν, eX4_likeliest (d + 1) 30 [some (.inr (.inr 30)), some (.inl (nI k)), some (.inl (nI l.length)), some (.inl 1), none] [] μ = eX4_likeliest (d + 1) 30 [some (.inr (.inr 30)), some (.inl (nI k)), some (.inl (nI ((c :: t).foldl (g_rs S (k + 1)) l).length)), some (.inl 0), none] [] ν ∧ bw_rl S ν ((c :: t).foldl (g_rs S (k + 1)) l) ∧ ((c :: t).foldl (g_rs S (k + 1)) l).length ≤ k + 1 ∧ bw_fRE μ ν := by
  have hrl_len : ∀ (l : List (Nat × Nat)) c, l.length ≤ k + 1 → (g_rs S (k + 1) l c).length ≤ k + 1 := fun l c h => by
    unfold g_rs
    split
    · exact ins_len h
    · exact h
  induction t generalizing c l μ with
  | nil =>
    have hc := hall c List.mem_cons_self
    obtain ⟨ν, e1, e2, e3, e4⟩ := sM_like_body d hS hk hc hl hnum hR hw hrl
    obtain ⟨τ, f1, f2⟩ := sM_next d hS c (fun x hx => by have := hc x hx; have := ok_v4 hS hx; omega) (fRE_r e4 hR) e3
    have hcb : c = b := hpt
    rw [hcb] at f2
    rcases f2 with ⟨_, f2⟩ | ⟨c', f2, _⟩
    · refine ⟨τ, ?_, rl_E f1 e2, hrl_len l c hl, fRE_trans e4 (fRE_E f1)⟩
      rw [e1, qX4_likeliest_73, f2, bq_I]
      rfl
    · rw [hb] at f2; cases f2
  | cons c1 t ih =>
    have hc := hall c List.mem_cons_self
    obtain ⟨ν, e1, e2, e3, e4⟩ := sM_like_body d hS hk hc hl hnum hR hw hrl
    obtain ⟨τ, f1, f2⟩ := sM_next d hS c (fun x hx => by have := hc x hx; have := ok_v4 hS hx; omega) (fRE_r e4 hR) e3
    have hlt := nxt_num (gV S) (gN S) (fun y hy => ok_v4 hS hy) c c1 hpt.1
    rw [hpt.1] at f2
    rcases f2 with ⟨f2, _⟩ | ⟨c', f2, f3, f4⟩
    · cases f2
    · cases f2
      obtain ⟨π, g1, g2, g3, g4⟩ := ih c1 hpt.2 (fun c' hc' => hall c' (List.mem_cons_of_mem _ hc')) (g_rs S (k + 1) l c) (hrl_len l c hl) (fun f hf => by
        unfold g_rs at hf
        split at hf
        · rcases ins_mem hf with h | h
          · rw [h]; exact hlt
          · exact Nat.lt_trans (hnum f h) hlt
        · exact Nat.lt_trans (hnum f hf) hlt) τ (fRE_r (fRE_trans e4 (fRE_E f1)) hR) f3 (rl_E f1 e2)
      refine ⟨π, ?_, g2, g3, fRE_trans (fRE_trans e4 (fRE_E f1)) g4⟩
      rw [e1, qX4_likeliest_73, f4, bq_I, g1]
      rfl
/-- the ranking of the class and that of the reference -/
theorem rs_foldl (S : bwS) (w : Nat) (l : List (Nat → Nat)) (R : List (Nat × Nat)) : l.foldl (g_rs S w) R = ((l.filter (fun c => decide (0 < g_lik S c) && g_hc none c)).map (fun c => (g_lik S c, g_num (gN S) c))).foldl (fun R e => bp_ins w e R) R := by
  induction l generalizing R with
  | nil => rfl
  | cons c t ih =>
    rw [List.foldl_cons]
    by_cases h : 0 < g_lik S c
    · rw [List.filter_cons_of_pos (by rw [decide_eq_true h]; rfl), List.map_cons, List.foldl_cons, ← ih]
      congr 1
      exact if_pos h
    · rw [List.filter_cons_of_neg (by rw [decide_eq_false h]; simp), ← ih]
      congr 1
      exact if_neg h
theorem rank_eq {S : bwS} (hS : bwOK S) {ord : List Nat} (ho : g_ord S ord) {w : Nat} (hw : 0 < w) : (g_met S none ord).foldl (fun l c' => bp_ins w (g_lik S c', g_num (gN S) c') l) [] = (g_all S).foldl (g_rs S w) [] := by
  rw [rs_foldl]
  have hp := g_met_perm S none ord ho (hok_none S)
  have h1 : (g_met S none ord).foldl (fun l c' => bp_ins w (g_lik S c', g_num (gN S) c') l) [] = ((g_met S none ord).map (fun c => (g_lik S c, g_num (gN S) c))).foldl (fun R e => bp_ins w e R) [] := by
    rw [List.foldl_map]
  rw [h1]
  refine (rank_perm hw (hp.symm.map _) ?_).symm
  obtain ⟨t, b, f1, f2, f3⟩ := g_all_path hS
  have hpw := pt_num (gV S) (gN S) (fun y hy => ok_v4 hS hy) t _ b f2
  rw [← f1] at hpw
  refine List.pairwise_map.2 ?_
  refine (hpw.sublist (List.filter_sublist)).imp (fun h => ?_)
  show _ ≠ _
  omega
theorem sB_show_go (d : Nat) {S : bwS} (hS : bwOK S) (x1 : Int32) {c : Nat → Nat} (hc : ∀ x, x < gN S → c x < 4) (k : Nat) (hk : k ≤ gN S) (μ : bwM) : ∃ ν, eX3_show d 20 [some (.inr (.inr 0)), some (.inl x1), some (.inl (nI (g_num k c))), some (.inl (nI k - 1))] [] μ = some (none, ν) ∧ (∀ x, x < k → ν.1 1 x = nI (c x)) ∧ (∀ x, k ≤ x → ν.1 1 x = μ.1 1 x) ∧ (∀ cc, cc ≠ 1 → ν.1 cc = μ.1 cc) ∧ ν.2 = μ.2 := by
  have hn := ok_n hS
  induction k generalizing μ with
  | zero =>
    refine ⟨μ, ?_, fun x hx => by omega, fun _ _ => rfl, fun _ _ => rfl, rfl⟩
    rw [qX3_show_20, if_pos (by decide)]
  | succ k ih =>
    have hck := hc k (by omega)
    have hlt := g_num_lt (k + 1) c (fun x hx => hc x (by omega))
    have hle : 4 ^ (k + 1) ≤ 4 ^ 12 := Nat.pow_le_pow_right (by omega) (by omega)
    have hnum : g_num (k + 1) c = 4 * g_num k c + c k := rfl
    obtain ⟨ν, e1, e2, e3, e4, e5⟩ := ih (by omega) (bw_si μ 1 k (nI (c k)))
    refine ⟨ν, ?_, fun x hx => ?_, fun x hx => ?_, fun cc hcc => ?_, e5⟩
    · rw [nI_pred, qX3_show_20, if_neg (nI_pos (by omega)), if_pos ((bq_ii (by omega)).2 (by omega)), nI_clamp (by omega), pk_andN (by omega) 2 (by decide), pk_shrN (by omega) ((2 : Int32) &&& 31) 2 (by decide)]
      rw [show g_num (k + 1) c % 2 ^ 2 = c k by omega, show g_num (k + 1) c / 2 ^ 2 = g_num k c by omega, show nI k + (-1 : Int32) = nI k - 1 from (Int32.sub_eq_add_neg (nI k) 1).symm]
      exact e1
    · by_cases hxk : x = k
      · rw [hxk, e3 k (Nat.le_refl _), bq_sie]
      · exact e2 x (by omega)
    · rw [e3 x (by omega), bq_sin _ _ (by omega)]
    · rw [e4 cc hcc]; funext j; exact bq_sin _ _ (by omega)
theorem sB_show (d : Nat) {S : bwS} (hS : bwOK S) {c : Nat → Nat} (hc : ∀ x, x < gN S → c x < 4) {μ : bwM} (hR : bwC 2 S μ) : ∃ ν, bw_call (d + 1) 78 [.inr (.inr 0), .inl (nI (g_num (gN S) c))] μ = some (none, ν) ∧ ν.1 0 4 = nI (gN S) ∧ (∀ x, x < gN S → ν.1 1 x = nI (c x)) ∧ (∀ cc, cc ≠ 1 → cc ≠ 0 → ν.1 cc = μ.1 cc) ∧ ν.2 = μ.2 := by
  obtain ⟨ν, e1, e2, e3, e4, e5⟩ := sB_show_go d hS (nI (g_num (gN S) c)) hc (gN S) (Nat.le_refl _) (bw_si μ 0 4 (nI (gN S)))
  refine ⟨ν, ?_, by rw [e4 0 (by omega), bq_sie], e2, fun cc h1 h2 => ?_, e5⟩
  · rw [qX3_show, show μ.1 2 0 = nI (gN S) from rc_n hR, bq_sie]
    exact e1
  · rw [e4 cc h1]; funext j; exact bq_sin _ _ (by omega)
