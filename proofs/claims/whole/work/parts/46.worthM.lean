/-! PURE: the reference counts and values wholes. -/
theorem bq_sle (μ : bwM) (o j : Nat) (x : Int64) : (bw_sl μ o j x).2 o j = x := if_pos ⟨rfl, rfl⟩
def lI (z : Int) : Int64 := Int64.ofInt z
theorem lI_add (a b : Int) : lI a + lI b = lI (a + b) := (Int64.ofInt_add a b).symm
theorem lI_mul (a b : Int) : lI a * lI b = lI (a * b) := (Int64.ofInt_mul a b).symm
theorem lI_N (n : Nat) : lN n = lI (n : Int) := by
  unfold lN lI
  rw [Int64.ofInt_eq_ofNat]
theorem lI_i (x : Int32) : x.toInt64 = lI x.toInt := by
  unfold lI
  rw [← Int32.toInt_toInt64, Int64.ofInt_toInt]
def bp_SI (f : (Nat → Nat) → Int) (l : List (Nat → Nat)) : Int := (l.map f).sum
theorem bp_SI_cons (f : (Nat → Nat) → Int) (c : Nat → Nat) (t : List (Nat → Nat)) : bp_SI f (c :: t) = f c + bp_SI f t := by unfold bp_SI; rw [List.map_cons, List.sum_cons]
theorem bp_SI_nil (f : (Nat → Nat) → Int) : bp_SI f [] = 0 := rfl
def bp_isum (f : Nat → Int) : Nat → Int
  | 0 => 0
  | n + 1 => bp_isum f n + f n
def g_u (S : bwS) (o : Nat) (c : Nat → Nat) (n : Nat) : Int := bp_isum (fun x => (gU S o x (c x)).toInt) n
theorem sM_u_go (d : Nat) {S : bwS} (hS : bwOK S) {o : Nat} (ho : o < gO S) (x2 x3 : Int32) (A : Int) {c : Nat → Nat} (hc : ∀ y, y < gN S → c y < gV S y) (μ : bwM) (hR : bwR' S μ) (hw : bw_wh S μ c) {L : Nat} (hL : μ.2 30 14 = lN L) (k : Nat) (hk : k ≤ gN S) : ∃ o7 o9 : Option bwV, eX4_worthOf d 39 [some (.inr (.inr 30)), some (.inl (nI o)), some (.inl x2), some (.inl x3), some (.inr (.inl (lI A))), none, some (.inl 1), some (.inr (.inl (lI (g_u S o c k)))), none, some (.inl (nI k))] [] μ = eX4_worthOf d 94 [some (.inr (.inr 30)), some (.inl (nI o)), some (.inl x2), some (.inl x3), some (.inr (.inl (lI (A + g_u S o c (gN S) * (L : Int))))), none, some (.inl 1), o7, none, o9] [] μ := by
  have hn := ok_n hS
  have hno := ok_o hS
  induction hj : gN S - k generalizing k with
  | zero =>
    have : k = gN S := by omega
    subst this
    refine ⟨some (.inr (.inl (lI (g_u S o c (gN S))))), some (.inl (nI (gN S))), ?_⟩
    rw [qX4_worthOf_39, rr_n hR, if_pos (nI_le (by omega) (by omega)), hL, lI_N, lI_mul, lI_add]
  | succ j ih =>
    have hk' : k < gN S := by omega
    have h4 := ok_v4 hS hk'
    have hck := hc k hk'
    obtain ⟨o7, o9, e⟩ := ih (k + 1) (by omega) (by omega)
    refine ⟨o7, o9, ?_⟩
    rw [qX4_worthOf_39, rr_n hR, if_neg (nI_ge (by omega) (by omega)), if_pos ((bq_ii (by omega)).2 (by omega)), nI_clamp (by omega), hw k hk', bq_48, if_pos ((bq_ii (by omega)).2 (by omega)), nI_clamp (by omega), rm_u hR ho hk' hck, lI_i, lI_add, qX4_worthOf_76, nI_1]
    exact e
theorem sM_worth_body (d : Nat) {S : bwS} (hS : bwOK S) {o : Nat} (ho : o < gO S) {p : Option (Nat × Nat)} {x2 x3 : Int32} (hp : bw_pr S p x2 x3) (c : Nat → Nat) (hc : ∀ y, y < gN S → c y < gV S y) (A : Int) (μ : bwM) (hR : bwR' S μ) (hw : bw_wh S μ c) : ∃ (ν : bwM) (o7 o9 : Option bwV), eX4_worthOf (d + 1) 10 [some (.inr (.inr 30)), some (.inl (nI o)), some (.inl x2), some (.inl x3), some (.inr (.inl (lI A))), none, some (.inl 1), none, none, none] [] μ = eX4_worthOf (d + 1) 94 [some (.inr (.inr 30)), some (.inl (nI o)), some (.inl x2), some (.inl x3), some (.inr (.inl (lI (A + (if g_tk p c = true then g_u S o c (gN S) * (g_lik S c : Int) else 0))))), none, some (.inl 1), o7, none, o9] [] ν ∧ bw_fE μ ν ∧ bw_wh S ν c := by
  have hn := ok_n hS
  have h29 : ∃ (ν : bwM) (o7 o9 : Option bwV), eX4_worthOf (d + 1) 29 [some (.inr (.inr 30)), some (.inl (nI o)), some (.inl x2), some (.inl x3), some (.inr (.inl (lI A))), none, some (.inl 1), none, none, none] [] μ = eX4_worthOf (d + 1) 94 [some (.inr (.inr 30)), some (.inl (nI o)), some (.inl x2), some (.inl x3), some (.inr (.inl (lI (A + g_u S o c (gN S) * (g_lik S c : Int))))), none, some (.inl 1), o7, none, o9] [] ν ∧ bw_fE μ ν ∧ bw_wh S ν c := by
    obtain ⟨o7, o9, e⟩ := sM_u_go (d + 1) hS ho x2 x3 A hc (bw_sl μ 30 14 (lN (g_lik S c))) hR hw (L := g_lik S c) (by rw [bq_sl2, if_pos ⟨rfl, rfl⟩]) 0 (by omega)
    refine ⟨bw_sl μ 30 14 (lN (g_lik S c)), o7, o9, ?_, fE_sl μ _, hw⟩
    rw [qX4_worthOf_29, sM_weigh d hS hR hc hw, bq_V, show Int64.ofNat 0 = lI (g_u S o c 0) from rfl, show (0 : Int32) = nI 0 from rfl]
    exact e
  rw [qX4_worthOf_10, if_neg bq_ne10]
  cases p with
  | none =>
    have : x2 = -1 := hp
    subst this
    rw [if_pos bq_m1]
    exact h29
  | some ab =>
    obtain ⟨a, b⟩ := ab
    obtain ⟨rfl, rfl, ha, hb⟩ := (show x2 = nI a ∧ x3 = nI b ∧ a < gN S ∧ b < gV S a from hp)
    have h4 := ok_v4 hS ha
    have hca := hc a ha
    rw [if_neg (nI_pos (by omega)), if_pos ((bq_ii (by omega)).2 (by omega)), nI_clamp (by omega), hw a ha]
    by_cases he : c a = b
    · rw [if_pos (by rw [he]), if_pos (by simp [g_tk, he])]
      exact h29
    · rw [if_neg (fun hh => he ((nI_eq (by omega) (by omega)).1 hh)), if_neg (by simp [g_tk, he]), Int.add_zero]
      exact ⟨μ, none, none, rfl, fE_refl μ, hw⟩
theorem sM_worth_go (d : Nat) {S : bwS} (hS : bwOK S) {o : Nat} (ho : o < gO S) {p : Option (Nat × Nat)} {x2 x3 : Int32} (hp : bw_pr S p x2 x3) (t : List (Nat → Nat)) (c b : Nat → Nat) (hpt : bp_pt (bp_nxt (gV S) (gN S)) c t b) (hb : bp_nxt (gV S) (gN S) b = none) (hall : ∀ c', c' ∈ c :: t → ∀ y, y < gN S → c' y < gV S y) (A : Int) (μ : bwM) (hR : bwR' S μ) (hw : bw_wh S μ c) : ∃ ν, eX4_worthOf (d + 1) 10 [some (.inr (.inr 30)), some (.inl (nI o)), some (.inl x2), some (.inl x3), some (.inr (.inl (lI A))), none, some (.inl 1), none, none, none] [] μ = some (some (.inr (.inl (lI (A + bp_SI (fun c => if g_tk p c = true then g_u S o c (gN S) * (g_lik S c : Int) else 0) (c :: t))))), ν) ∧ bw_fE μ ν := by
  induction t generalizing c A μ with
  | nil =>
    have hc := hall c List.mem_cons_self
    obtain ⟨ν, o7, o9, e1, e2, e3⟩ := sM_worth_body d hS ho hp c hc A μ hR hw
    obtain ⟨τ, f1, f2⟩ := sM_next d hS c (fun x hx => by have := hc x hx; have := ok_v4 hS hx; omega) (fE_r e2 hR) e3
    have hcb : c = b := hpt
    rw [hcb] at f2
    rcases f2 with ⟨_, f2⟩ | ⟨c', f2, _⟩
    · refine ⟨τ, ?_, fE_trans e2 f1⟩
      rw [e1, qX4_worthOf_94, f2, bq_I, qX4_worthOf_10, if_pos rfl, bp_SI_cons, bp_SI_nil, Int.add_zero]
    · rw [hb] at f2; cases f2
  | cons c1 t ih =>
    have hc := hall c List.mem_cons_self
    obtain ⟨ν, o7, o9, e1, e2, e3⟩ := sM_worth_body d hS ho hp c hc A μ hR hw
    obtain ⟨τ, f1, f2⟩ := sM_next d hS c (fun x hx => by have := hc x hx; have := ok_v4 hS hx; omega) (fE_r e2 hR) e3
    rw [hpt.1] at f2
    rcases f2 with ⟨f2, _⟩ | ⟨c', f2, f3, f4⟩
    · cases f2
    · cases f2
      obtain ⟨π, g1, g2⟩ := ih c1 hpt.2 (fun c' hc' => hall c' (List.mem_cons_of_mem _ hc')) (A + (if g_tk p c = true then g_u S o c (gN S) * (g_lik S c : Int) else 0)) τ (fE_r (fE_trans e2 f1) hR) f3
      refine ⟨π, ?_, fE_trans (fE_trans e2 f1) g2⟩
      rw [e1, qX4_worthOf_94, f4, bq_I, g1, bp_SI_cons _ c, Int.add_assoc]
/-- worthOf -/
theorem sM_worthOf (d : Nat) {S : bwS} (hS : bwOK S) {o : Nat} (ho : o < gO S) {p : Option (Nat × Nat)} {x2 x3 : Int32} (hp : bw_pr S p x2 x3) {μ : bwM} (hR : bwR' S μ) : ∃ ν, bw_call (d + 2) 131 [.inr (.inr 30), .inl (nI o), .inl x2, .inl x3] μ = some (some (.inr (.inl (lI (bp_SI (fun c => if g_tk p c = true then g_u S o c (gN S) * (g_lik S c : Int) else 0) (g_all S))))), ν) ∧ bw_fE μ ν := by
  obtain ⟨ν, e1, e2, e3⟩ := sM_first d hS hR
  obtain ⟨t, b, f1, f2, f3⟩ := g_all_path hS
  obtain ⟨τ, g1, g2⟩ := sM_worth_go d hS ho hp t _ b f2 f3 (fun c' hc' => ((g_all_mem S c').1 (by rw [f1]; exact hc')).2) 0 ν (fE_r e3 hR) e2
  refine ⟨τ, ?_, fE_trans e3 g2⟩
  rw [qX4_worthOf, e1, bq_V, show Int64.ofNat 0 = lI 0 from rfl, g1, f1, Int.zero_add]
def g_pos (S : bwS) (c : Nat → Nat) : Bool := decide (0 < g_lik S c)
theorem sM_cnt_go (d : Nat) {S : bwS} (hS : bwOK S) (t : List (Nat → Nat)) (c b : Nat → Nat) (hpt : bp_pt (bp_nxt (gV S) (gN S)) c t b) (hb : bp_nxt (gV S) (gN S) b = none) (hall : ∀ c', c' ∈ c :: t → ∀ y, y < gN S → c' y < gV S y) (A : Nat) (μ : bwM) (hR : bwR' S μ) (hw : bw_wh S μ c) : ∃ ν, eX4_wholes (d + 1) 18 [some (.inr (.inr 30)), some (.inl (nI A)), some (.inl 1)] [] μ = some (some (.inl (nI (A + ((c :: t).filter (g_pos S)).length))), ν) ∧ bw_fE μ ν := by
  have body : ∀ (c : Nat → Nat) (hc : ∀ y, y < gN S → c y < gV S y) (A : Nat) (μ : bwM) (hR : bwR' S μ) (hw : bw_wh S μ c), ∃ s : Nat, s = ([c].filter (g_pos S)).length ∧ eX4_wholes (d + 1) 18 [some (.inr (.inr 30)), some (.inl (nI A)), some (.inl 1)] [] μ = eX4_wholes (d + 1) 41 [some (.inr (.inr 30)), some (.inl (nI A)), some (.inl 1)] [.inl (nI s), .inl (nI A)] (bw_sl μ 30 14 (lN (g_lik S c))) := by
    intro c hc A μ hR hw
    have hle := g_lik_le hS hc
    rw [qX4_wholes_18, if_neg bq_ne10, sM_weigh d hS hR hc hw, bq_V, bq_sle, show Int64.ofNat 0 = lN 0 from rfl]
    by_cases h0 : 0 < g_lik S c
    · refine ⟨1, ?_, ?_⟩
      · rw [List.filter_cons_of_pos (by exact decide_eq_true h0)]; rfl
      · rw [if_neg (fun hh => by have := (pk_lLE (by omega) (by omega)).1 ((lg_cmp_le _ _).1 hh); omega)]; rfl
    · refine ⟨0, ?_, ?_⟩
      · rw [List.filter_cons_of_neg (by simp [g_pos, h0])]; rfl
      · rw [if_pos ((lg_cmp_le _ _).2 ((pk_lLE (by omega) (by omega)).2 (by omega)))]; rfl
  induction t generalizing c A μ with
  | nil =>
    have hc := hall c List.mem_cons_self
    obtain ⟨s, e0, e1⟩ := body c hc A μ hR hw
    have e2 := fE_sl μ (lN (g_lik S c))
    obtain ⟨τ, f1, f2⟩ := sM_next d hS c (fun x hx => by have := hc x hx; have := ok_v4 hS hx; omega) (fE_r e2 hR) hw
    have hcb : c = b := hpt
    rw [hcb] at f2
    rcases f2 with ⟨_, f2⟩ | ⟨c', f2, _⟩
    · refine ⟨τ, ?_, fE_trans e2 f1⟩
      rw [e1, qX4_wholes_41, hcb, f2, bq_I, qX4_wholes_18, if_pos rfl, nI_add, e0, hcb]
    · rw [hb] at f2; cases f2
  | cons c1 t ih =>
    have hc := hall c List.mem_cons_self
    obtain ⟨s, e0, e1⟩ := body c hc A μ hR hw
    have e2 := fE_sl μ (lN (g_lik S c))
    obtain ⟨τ, f1, f2⟩ := sM_next d hS c (fun x hx => by have := hc x hx; have := ok_v4 hS hx; omega) (fE_r e2 hR) hw
    rw [hpt.1] at f2
    rcases f2 with ⟨f2, _⟩ | ⟨c', f2, f3, f4⟩
    · cases f2
    · cases f2
      obtain ⟨π, g1, g2⟩ := ih c1 hpt.2 (fun c' hc' => hall c' (List.mem_cons_of_mem _ hc')) (A + s) τ (fE_r (fE_trans e2 f1) hR) f3
      refine ⟨π, ?_, fE_trans (fE_trans e2 f1) g2⟩
      rw [e1, qX4_wholes_41, f4, bq_I, nI_add, g1]
      rw [show c :: c1 :: t = [c] ++ (c1 :: t) from rfl, List.filter_append, List.length_append, e0, Nat.add_assoc]
/-- wholes of a sound web -/
theorem sM_cnt (d : Nat) {S : bwS} (hS : bwOK S) (hs : g_sound S) {μ : bwM} (hR : bwR' S μ) : ∃ ν, bw_call (d + 4) 124 [.inr (.inr 30)] μ = some (some (.inl (nI ((g_all S).filter (g_pos S)).length)), ν) ∧ bw_fE μ ν := by
  obtain ⟨ν, e1, e2, e3⟩ := sM_first (d + 2) hS hR
  obtain ⟨t, b, f1, f2, f3⟩ := g_all_path hS
  obtain ⟨τ, g1, g2⟩ := sM_cnt_go (d + 2) hS t _ b f2 f3 (fun c' hc' => ((g_all_mem S c').1 (by rw [f1]; exact hc')).2) 0 ν (fE_r e3 hR) e2
  refine ⟨τ, ?_, fE_trans e3 g2⟩
  rw [qX4_wholes, sM_nrough _ hS hR hs, bq_I, if_pos rfl, e1, bq_V, show (0 : Int32) = nI 0 from rfl, g1, f1, Nat.zero_add]
