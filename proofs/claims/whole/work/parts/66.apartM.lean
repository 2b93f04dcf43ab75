/-! PURE: the reference's search for open roads. -/
theorem sM_leads (d : Nat) {S : bwS} (hS : bwOK S) {μ : bwM} (hR : bwR' S μ) {a b : Nat} (ha : a < gN S) (hb : b < gN S) : (g_ld S a b → bw_call (d + 2) 125 [.inr (.inr 30), .inl (nI a), .inl (nI b)] μ = some (some (.inl 1), μ)) ∧ (¬ g_ld S a b → bw_call (d + 2) 125 [.inr (.inr 30), .inl (nI a), .inl (nI b)] μ = some (some (.inl 0), μ)) := by
  have hn := ok_n hS
  rw [qX4_leads, if_pos ((bq_ii (by omega)).2 (by omega)), nI_clamp (by omega), rm_d hR hb, bq_0]
  by_cases hd : gD S b = none
  · rw [if_neg (fun hh => (bo_ge _ (ok_ds hS hb)).1 hh hd)]
    by_cases hp : a ∈ gP S b
    · rw [sM_par _ hS hR hb ha hp, bq_I, if_neg bq_ne10, bq_1]
      exact ⟨fun _ => rfl, fun h => absurd ⟨hb, hd, hp⟩ h⟩
    · rw [sM_npar _ hS hR hb ha hp, bq_I, if_pos rfl, bq_0]
      exact ⟨fun h => absurd h.2.2 hp, fun _ => rfl⟩
  · rw [if_pos ((bo_ge _ (ok_ds hS hb)).2 hd)]
    exact ⟨fun h => absurd h.2.1 hd, fun _ => rfl⟩
theorem sM_pas_go (d : Nat) {S : bwS} (hS : bwOK S) (x1 x2 x3 : Int32) {μ : bwM} (hR : bwR' S μ) {rb : Nat → Bool} (hrb : bw_rb S μ rb) (k : Nat) (hk : k ≤ gN S) (hno : ∀ z, z < k → ¬ (rb z = true ∧ gS S z ≠ none)) : ((∃ z, z < gN S ∧ rb z = true ∧ gS S z ≠ none) → eX4_passes d 27 [some (.inr (.inr 30)), some (.inl x1), some (.inl x2), some (.inl x3), some (.inl (nI k))] [] μ = some (some (.inl 1), μ)) ∧ (¬ (∃ z, z < gN S ∧ rb z = true ∧ gS S z ≠ none) → eX4_passes d 27 [some (.inr (.inr 30)), some (.inl x1), some (.inl x2), some (.inl x3), some (.inl (nI k))] [] μ = some (some (.inl 0), μ)) := by
  have hn := ok_n hS
  induction hj : gN S - k generalizing k with
  | zero =>
    have : k = gN S := by omega
    subst this
    rw [qX4_passes_27, rr_n hR, if_pos (nI_le (by omega) (by omega)), bq_0]
    exact ⟨fun ⟨z, h1, h2⟩ => absurd h2 (hno z h1), fun _ => rfl⟩
  | succ j ih =>
    have hk' : k < gN S := by omega
    rw [qX4_passes_27, bq_0, bq_1, rr_n hR, if_neg (nI_ge (by omega) (by omega))]
    simp only [bq_it (show k < 12 by omega) (by decide)]
    rw [nI_clamp (by omega), hrb k hk', rm_s hR hk', qX4_passes_58, nI_1]
    by_cases h1 : rb k = true
    · rw [if_neg (fun hh => by rw [bq_b1.1 hh] at h1; cases h1)]
      by_cases h2 : gS S k = none
      · rw [if_pos ((bo_lt _ (ok_ss hS hk')).2 h2)]
        exact ih (k + 1) (by omega) (fun z hz hh => by
          by_cases hzk : z = k
          · subst hzk; exact hh.2 h2
          · exact hno z (by omega) hh) (by omega)
      · rw [if_neg (fun hh => h2 ((bo_lt _ (ok_ss hS hk')).1 hh))]
        exact ⟨fun _ => rfl, fun h => absurd ⟨k, hk', h1, h2⟩ h⟩
    · rw [if_pos (bq_b1.2 (Bool.eq_false_iff.2 h1))]
      exact ih (k + 1) (by omega) (fun z hz hh => by
        by_cases hzk : z = k
        · subst hzk; exact h1 hh.1
        · exact hno z (by omega) hh) (by omega)
theorem sM_pas (d : Nat) {S : bwS} (hS : bwOK S) {μ : bwM} (hR : bwR' S μ) {c a b : Nat} (hc : c < gN S) (ha : a < gN S) (hb : b < gN S) : ∃ ν, bw_f40 μ ν ∧ (g_pas S c a b → bw_call (d + 3) 126 [.inr (.inr 30), .inl (nI c), .inl (nI a), .inl (nI b)] μ = some (some (.inl 1), ν)) ∧ (¬ g_pas S c a b → bw_call (d + 3) 126 [.inr (.inr 30), .inl (nI c), .inl (nI a), .inl (nI b)] μ = some (some (.inl 0), ν)) := by
  have hn := ok_n hS
  have l1 := sM_leads d hS hR hc ha
  have l2 := sM_leads d hS hR hb ha
  have h66 : ¬ (g_ld S c a ∧ g_ld S b a) → (g_pas S c a b → eX4_passes (d + 2) 66 [some (.inr (.inr 30)), some (.inl (nI c)), some (.inl (nI a)), some (.inl (nI b)), none] [] μ = some (some (.inl 1), μ)) ∧ (¬ g_pas S c a b → eX4_passes (d + 2) 66 [some (.inr (.inr 30)), some (.inl (nI c)), some (.inl (nI a)), some (.inl (nI b)), none] [] μ = some (some (.inl 0), μ)) := fun hcol => by
    rw [qX4_passes_66, bq_0, bq_1]
    simp only [bq_it (show a < 12 by omega) (by decide)]
    rw [nI_clamp (by omega), rm_s hR ha, rm_d hR ha]
    by_cases h1 : gS S a = none
    · rw [if_neg (fun hh => (bo_ge _ (ok_ss hS ha)).1 hh h1)]
      by_cases h2 : gD S a = none
      · rw [if_neg (fun hh => (bo_ge _ (ok_ds hS ha)).1 hh h2)]
        exact ⟨fun _ => rfl, fun h => absurd ⟨fun hh => absurd hh hcol, fun _ => ⟨h1, h2⟩⟩ h⟩
      · rw [if_pos ((bo_ge _ (ok_ds hS ha)).2 h2)]
        exact ⟨fun h => absurd (h.2 hcol).2 h2, fun _ => rfl⟩
    · rw [if_pos ((bo_ge _ (ok_ss hS ha)).2 h1)]
      exact ⟨fun h => absurd (h.2 hcol).1 h1, fun _ => rfl⟩
  rw [qX4_passes]
  by_cases hca : g_ld S c a
  · rw [l1.1 hca, bq_I, if_neg bq_ne10]
    by_cases hba : g_ld S b a
    · obtain ⟨ν, rb, e1, e2, e3, e4⟩ := sM_reach (d + 1) hS true ha hR
      have hgo := sM_pas_go (d + 2) hS (nI c) (nI a) (nI b) (f40_r e3 hR) e2 0 (by omega) (fun z hz => by omega)
      have hsd : (∃ z, z < gN S ∧ rb z = true ∧ gS S z ≠ none) ↔ g_sd S a := ⟨fun ⟨z, h1, h2, h3⟩ => ⟨z, h1, (e4 z h1).1 h2, h3⟩, fun ⟨z, h1, h2, h3⟩ => ⟨z, h1, (e4 z h1).2 h2, h3⟩⟩
      refine ⟨ν, e3, ?_⟩
      rw [l2.1 hba, bq_I, if_neg bq_ne10]
      rw [show bw_call (d + 2) 91 [.inr (.inr 30), .inl (nI a), .inl (1 : Int32)] μ = some (none, ν) from e1, bq_V]
      exact ⟨fun h => hgo.1 (hsd.2 (h.1 ⟨hca, hba⟩)), fun h => hgo.2 (fun hh => h ⟨fun _ => hsd.1 hh, fun hn => absurd ⟨hca, hba⟩ hn⟩)⟩
    · rw [l2.2 hba, bq_I, if_pos rfl]
      exact ⟨μ, f40_refl μ, h66 (fun h => hba h.2)⟩
  · rw [l1.2 hca, bq_I, if_pos rfl]
    exact ⟨μ, f40_refl μ, h66 (fun h => hca h.1)⟩
/-- the road in memory, its end first; the things on it -/
def bw_rdm (μ : bwM) : List Nat → Prop
  | [] => True
  | a :: t => μ.1 45 t.length = nI a ∧ bw_rdm μ t
def bw_onm (S : bwS) (μ : bwM) (l : List Nat) : Prop := ∀ v, v < gN S → μ.1 47 v = if l.contains v = true then 1 else 0
theorem rdm_fr {μ ν : bwM} (l : List Nat) (h : bw_rdm μ l) (hf : ∀ j, j < l.length → ν.1 45 j = μ.1 45 j) : bw_rdm ν l := by
  induction l with
  | nil => trivial
  | cons a t ih => exact ⟨(hf t.length (by rw [List.length_cons]; omega)).trans h.1, ih h.2 (fun j hj => hf j (by rw [List.length_cons]; omega))⟩
/-- a next thing of a road -/
def g_vl (S : bwS) (x : Nat) (l : List Nat) (v : Nat) : Prop := g_op S x (v :: l) ∧ v ∉ l
theorem sM_find (d : Nat) {S : bwS} (hS : bwOK S) (x : Nat) (x1 x2 : Int32) {a : Nat} {rest : List Nat} (ha : a < gN S) (hlt : ∀ z, z ∈ rest → z < gN S) (ho : g_op S x (a :: rest)) (hlen : rest.length ≤ 12) (t : Nat) (ht : t ≤ gN S) (μ : bwM) (hR : bwR' S μ) (hrd : bw_rdm μ (a :: rest)) (hon : bw_onm S μ (a :: rest)) : ∃ ν v, eX4_apart (d + 3) 95 [some (.inr (.inr 30)), some (.inl x1), some (.inl x2), some (.inl (nI rest.length)), some (.inl (nI a)), some (.inl (nI t))] [] μ = eX4_apart (d + 3) 165 [some (.inr (.inr 30)), some (.inl x1), some (.inl x2), some (.inl (nI rest.length)), some (.inl (nI a)), some (.inl (nI v))] [] ν ∧ bw_f40 μ ν ∧ t ≤ v ∧ v ≤ gN S ∧ (v < gN S → g_vl S x (a :: rest) v) ∧ (∀ w, t ≤ w → w < v → ¬ g_vl S x (a :: rest) w) := by
  have hn := ok_n hS
  induction hj : gN S - t generalizing t μ with
  | zero =>
    have : t = gN S := by omega
    subst this
    refine ⟨μ, gN S, ?_, f40_refl μ, Nat.le_refl _, Nat.le_refl _, fun h => by omega, fun w h1 h2 => by omega⟩
    rw [qX4_apart_95, rr_n hR, if_pos (nI_le (by omega) (by omega))]
  | succ j ih =>
    have ht' : t < gN S := by omega
    -- t is not fit: go on
    have nogo : ∀ τ : bwM, bw_f40 μ τ → ¬ g_vl S x (a :: rest) t → ∃ ν v, eX4_apart (d + 3) 159 [some (.inr (.inr 30)), some (.inl x1), some (.inl x2), some (.inl (nI rest.length)), some (.inl (nI a)), some (.inl (nI t))] [] τ = eX4_apart (d + 3) 165 [some (.inr (.inr 30)), some (.inl x1), some (.inl x2), some (.inl (nI rest.length)), some (.inl (nI a)), some (.inl (nI v))] [] ν ∧ bw_f40 μ ν ∧ t ≤ v ∧ v ≤ gN S ∧ (v < gN S → g_vl S x (a :: rest) v) ∧ (∀ w, t ≤ w → w < v → ¬ g_vl S x (a :: rest) w) := fun τ hf hnv => by
      obtain ⟨ν, v, e1, e2, e3, e4, e5, e6⟩ := ih (t + 1) (by omega) τ (f40_r hf hR) (rdm_fr _ hrd (fun j _ => by rw [hf.1 45 (by omega)])) (fun v hv => by rw [hf.1 47 (by omega)]; exact hon v hv) (by omega)
      refine ⟨ν, v, ?_, f40_trans hf e2, by omega, e4, e5, fun w h1 h2 => ?_⟩
      · rw [qX4_apart_159, nI_1]; exact e1
      · by_cases hwt : w = t
        · rw [hwt]; exact hnv
        · exact e6 w (by omega) h2
    have found : ∀ τ : bwM, bw_f40 μ τ → g_vl S x (a :: rest) t → ∃ ν v, eX4_apart (d + 3) 165 [some (.inr (.inr 30)), some (.inl x1), some (.inl x2), some (.inl (nI rest.length)), some (.inl (nI a)), some (.inl (nI t))] [] τ = eX4_apart (d + 3) 165 [some (.inr (.inr 30)), some (.inl x1), some (.inl x2), some (.inl (nI rest.length)), some (.inl (nI a)), some (.inl (nI v))] [] ν ∧ bw_f40 μ ν ∧ t ≤ v ∧ v ≤ gN S ∧ (v < gN S → g_vl S x (a :: rest) v) ∧ (∀ w, t ≤ w → w < v → ¬ g_vl S x (a :: rest) w) := fun τ hf hv => ⟨τ, t, rfl, hf, Nat.le_refl _, by omega, fun _ => hv, fun w h1 h2 => by omega⟩
    have at136 : t ∉ a :: rest → (g_ld S a t ∨ g_ld S t a) → ∃ ν v, eX4_apart (d + 3) 136 [some (.inr (.inr 30)), some (.inl x1), some (.inl x2), some (.inl (nI rest.length)), some (.inl (nI a)), some (.inl (nI t))] [] μ = eX4_apart (d + 3) 165 [some (.inr (.inr 30)), some (.inl x1), some (.inl x2), some (.inl (nI rest.length)), some (.inl (nI a)), some (.inl (nI v))] [] ν ∧ bw_f40 μ ν ∧ t ≤ v ∧ v ≤ gN S ∧ (v < gN S → g_vl S x (a :: rest) v) ∧ (∀ w, t ≤ w → w < v → ¬ g_vl S x (a :: rest) w) := fun hnm hadj => by
      rw [qX4_apart_136]
      cases rest with
      | nil =>
        rw [if_pos (show nI ([] : List Nat).length = 0 from rfl)]
        exact found μ (f40_refl μ) ⟨⟨hadj, fun c s hc => (by cases hc), ho⟩, hnm⟩
      | cons c s =>
        have hcn : c < gN S := hlt c List.mem_cons_self
        rw [List.length_cons] at hlen ⊢
        rw [if_neg (nI_ne0 (by omega) (by omega)), nI_pred, if_pos ((bq_ii (by omega)).2 (by omega)), nI_clamp (by omega), hrd.2.1]
        obtain ⟨ν, f1, f2, f3⟩ := sM_pas d hS hR hcn ha ht'
        by_cases hp : g_pas S c a t
        · rw [f2 hp, bq_I, if_neg bq_ne10]
          exact found ν f1 ⟨⟨hadj, fun c2 s2 hc => (by obtain ⟨rfl, rfl⟩ := List.cons.inj hc; exact hp), ho⟩, hnm⟩
        · rw [f3 hp, bq_I, if_pos rfl]
          exact nogo ν f1 (fun hv => hp (hv.1.2.1 c s rfl))
    rw [qX4_apart_95, rr_n hR, if_neg (nI_ge (by omega) (by omega)), if_pos ((bq_ii (by omega)).2 (by omega)), nI_clamp (by omega), hon t ht']
    by_cases hm : t ∈ a :: rest
    · have hcm : (a :: rest).contains t = true := by simpa using hm
      rw [hcm, if_pos rfl, if_neg bq_ne10]
      exact nogo μ (f40_refl μ) (fun hv => hv.2 hm)
    · have hcm : (a :: rest).contains t = false := by
        rw [Bool.eq_false_iff]
        intro hh
        exact hm (by simpa using hh)
      rw [hcm, if_pos (show (if false = true then (1 : Int32) else 0) = 0 from rfl)]
      have l1 := sM_leads (d + 1) hS hR ha ht'
      have l2 := sM_leads (d + 1) hS hR ht' ha
      by_cases h1 : g_ld S a t
      · rw [l1.1 h1, bq_I, if_neg bq_ne10]
        exact at136 hm (Or.inl h1)
      · rw [l1.2 h1, bq_I, if_pos rfl]
        by_cases h2 : g_ld S t a
        · rw [l2.1 h2, bq_I, if_neg bq_ne10]
          exact at136 hm (Or.inr h2)
        · rw [l2.2 h2, bq_I, if_pos rfl]
          exact nogo μ (f40_refl μ) (fun hv => hv.1.1.elim h1 h2)
/-- from this road on, by a next thing of t or more, a road leads to y -/
def g_F (S : bwS) (x y : Nat) (l : List Nat) (t : Nat) : Prop := ∃ pre v, t ≤ v ∧ g_op S x (pre ++ v :: l) ∧ (pre ++ v :: l).Nodup ∧ (pre ++ [v]).head? = some y
theorem op_suf {S : bwS} {x : Nat} (pre : List Nat) (v : Nat) (l : List Nat) (h : g_op S x (pre ++ v :: l)) : g_op S x (v :: l) := by
  induction pre with
  | nil => exact h
  | cons a t ih =>
    cases t with
    | nil => exact h.2.2
    | cons b s => exact ih h.2.2
theorem F_vl {S : bwS} {x : Nat} {pre l : List Nat} {v : Nat} (h : g_op S x (pre ++ v :: l)) (hd : (pre ++ v :: l).Nodup) : g_vl S x l v := ⟨op_suf pre v l h, (List.nodup_cons.1 (List.nodup_append.1 hd).2.1).1⟩
theorem F_step {S : bwS} {x y : Nat} {l : List Nat} {t v : Nat} (htv : t ≤ v) (hno : ∀ w, t ≤ w → w < v → ¬ g_vl S x l w) (hvy : v ≠ y) : g_F S x y l t ↔ g_F S x y (v :: l) 0 ∨ g_F S x y l (v + 1) := by
  constructor
  · rintro ⟨pre, w, h1, h2, h3, h4⟩
    have hw := F_vl h2 h3
    have hvw : v ≤ w := Classical.byContradiction (fun h => hno w h1 (by omega) hw)
    by_cases hwv : w = v
    · subst hwv
      left
      cases hp : pre.reverse with
      | nil =>
        have : pre = [] := by simpa using hp
        subst this
        simp at h4
        exact absurd h4 hvy
      | cons u r =>
        have hpre : pre = r.reverse ++ [u] := by
          have := congrArg List.reverse hp
          simpa using this
        subst hpre
        refine ⟨r.reverse, u, Nat.zero_le _, ?_, ?_, ?_⟩
        · simpa using h2
        · simpa using h3
        · rw [List.append_assoc] at h4
          cases hr : r.reverse with
          | nil => rw [hr] at h4; simpa using h4
          | cons q s => rw [hr] at h4; simpa using h4
    · exact Or.inr ⟨pre, w, by omega, h2, h3, h4⟩
  · rintro (⟨pre, u, _, h2, h3, h4⟩ | ⟨pre, w, h1, h2, h3, h4⟩)
    · refine ⟨pre ++ [u], v, htv, by simpa using h2, by simpa using h3, ?_⟩
      cases pre with
      | nil => simpa using h4
      | cons q s => simpa using h4
    · exact ⟨pre, w, by omega, h2, h3, h4⟩
theorem F_hit {S : bwS} {x y : Nat} {l : List Nat} {t : Nat} (hty : t ≤ y) (hv : g_vl S x l y) (hd : l.Nodup) : g_F S x y l t := ⟨[], y, hty, hv.1, List.nodup_cons.2 ⟨hv.2, hd⟩, rfl⟩
theorem vl_lt {S : bwS} (hS : bwOK S) {x v a : Nat} {l : List Nat} (h : g_vl S x (a :: l) v) : v < gN S := (op_lt hS h.1).1
theorem F_end {S : bwS} (hS : bwOK S) {x y a : Nat} {l : List Nat} {t : Nat} (hno : ∀ w, t ≤ w → w < gN S → ¬ g_vl S x (a :: l) w) : ¬ g_F S x y (a :: l) t := by
  rintro ⟨pre, w, h1, h2, h3, h4⟩
  have hw := F_vl h2 h3
  exact hno w h1 (vl_lt hS hw) hw

/-- what the search may change -/
def bw_fD (μ ν : bwM) : Prop := (∀ c, c ≠ 40 → c ≠ 45 → c ≠ 46 → c ≠ 47 → ν.1 c = μ.1 c) ∧ ν.2 = μ.2
theorem fD_40 {μ ν : bwM} (h : bw_f40 μ ν) : bw_fD μ ν := ⟨fun c h1 _ _ _ => h.1 c h1, h.2⟩
theorem fD_trans {μ ν π : bwM} (h : bw_fD μ ν) (h' : bw_fD ν π) : bw_fD μ π := ⟨fun c h1 h2 h3 h4 => (h'.1 c h1 h2 h3 h4).trans (h.1 c h1 h2 h3 h4), h'.2.trans h.2⟩
theorem fD_r {S : bwS} {μ ν : bwM} (h : bw_fD μ ν) (hR : bwR' S μ) : bwR' S ν := fr_r hR (fun i hi _ => h.1 _ (by omega) (by omega) (by omega) (by omega)) (by rw [h.1 30 (by omega) (by omega) (by omega) (by omega)]) (by rw [h.1 30 (by omega) (by omega) (by omega) (by omega)])
theorem fD_si (μ : bwM) (c j : Nat) (x : Int32) (h : c = 40 ∨ c = 45 ∨ c = 46 ∨ c = 47) : bw_fD μ (bw_si μ c j x) := ⟨fun c' h1 h2 h3 h4 => funext (fun i => bq_sin _ _ (by omega)), rfl⟩
theorem sM_dfs (d : Nat) {S : bwS} (hS : bwOK S) {x y : Nat} (hy : y < gN S) (x1 : Int32) (M : Nat) (a : Nat) (rest : List Nat) (t : Nat) (hM : (13 - (rest.length + 1)) * 20 + (13 - t) = M) (ht : t ≤ gN S) (hall : ∀ z, z ∈ a :: rest → z < gN S) (ho : g_op S x (a :: rest)) (hd : (a :: rest).Nodup) (o4 o5 : Option bwV) (μ : bwM) (hR : bwR' S μ) (hrd : bw_rdm μ (a :: rest)) (hon : bw_onm S μ (a :: rest)) (htr : μ.1 46 rest.length + 1 = nI t) : ∃ (ν : bwM) (p4 p5 : Option bwV), bw_fD μ ν ∧ (g_F S x y (a :: rest) t → eX4_apart (d + 3) 73 [some (.inr (.inr 30)), some (.inl x1), some (.inl (nI y)), some (.inl (nI rest.length)), o4, o5] [] μ = some (some (.inl 0), ν)) ∧ (¬ g_F S x y (a :: rest) t → eX4_apart (d + 3) 73 [some (.inr (.inr 30)), some (.inl x1), some (.inl (nI y)), some (.inl (nI rest.length)), o4, o5] [] μ = eX4_apart (d + 3) 73 [some (.inr (.inr 30)), some (.inl x1), some (.inl (nI y)), some (.inl (nI rest.length - 1)), p4, p5] [] ν ∧ bw_onm S ν rest ∧ (∀ j, j < rest.length → ν.1 45 j = μ.1 45 j ∧ ν.1 46 j = μ.1 46 j)) := by
  have hn := ok_n hS
  induction M using Nat.strongRecOn generalizing a rest t o4 o5 μ with
  | ind M ih =>
    have hlen : rest.length + 1 ≤ gN S := by
      have := List.Nodup.length_le_of_subset hd (l₂ := List.range (gN S)) (fun z hz => List.mem_range.2 (hall z hz))
      rwa [List.length_range, List.length_cons] at this
    have ha : a < gN S := hall a List.mem_cons_self
    obtain ⟨ν, v, e1, e2, e3, e4, e5, e6⟩ := sM_find d hS x x1 (nI y) ha (fun z hz => hall z (List.mem_cons_of_mem _ hz)) ho (by omega) t ht μ hR hrd hon
    have hRν := f40_r e2 hR
    have hstart : eX4_apart (d + 3) 73 [some (.inr (.inr 30)), some (.inl x1), some (.inl (nI y)), some (.inl (nI rest.length)), o4, o5] [] μ = eX4_apart (d + 3) 165 [some (.inr (.inr 30)), some (.inl x1), some (.inl (nI y)), some (.inl (nI rest.length)), some (.inl (nI a)), some (.inl (nI v))] [] ν := by
      rw [qX4_apart_73, if_neg (nI_pos (by omega))]
      simp only [bq_it (show rest.length < 13 by omega) (by decide)]
      rw [nI_clamp (by omega), hrd.1, htr]
      exact e1
    rw [hstart, qX4_apart_165, if_pos ((bq_ii (by omega)).2 (by omega)), nI_clamp (n := rest.length) (by omega), bq_sin (o' := 30) _ _ (by omega), rr_n hRν]
    have f46 := fD_si ν 46 rest.length (nI v) (by omega)
    by_cases hvy : v = y
    · subst hvy
      refine ⟨bw_si ν 46 rest.length (nI v), none, none, fD_trans (fD_40 e2) f46, fun _ => by rw [if_pos rfl], fun hno => absurd (F_hit e3 (e5 hy) hd) hno⟩
    · rw [if_neg (fun hh => hvy ((nI_eq (by omega) (by omega)).1 hh))]
      by_cases hvn : v < gN S
      · have hvl := e5 hvn
        rw [if_pos (nI_lt hvn (by omega)), nI_1, if_pos ((bq_ii (by omega)).2 (by omega)), nI_clamp (by omega), qX4_apart_215, if_pos ((bq_ii (by omega)).2 (by omega)), if_pos ((bq_ii (by omega)).2 (by omega)), nI_clamp (n := rest.length + 1) (by omega), nI_clamp (n := v) (by omega), bq_vn1]
        -- the memory with v on the road
        have f45 := fD_si (bw_si ν 46 rest.length (nI v)) 45 (rest.length + 1) (nI v) (by omega)
        have f46' := fD_si (bw_si (bw_si ν 46 rest.length (nI v)) 45 (rest.length + 1) (nI v)) 46 (rest.length + 1) (-1) (by omega)
        have f47 := fD_si (bw_si (bw_si (bw_si ν 46 rest.length (nI v)) 45 (rest.length + 1) (nI v)) 46 (rest.length + 1) (-1)) 47 v 1 (by omega)
        have fall := fD_trans (fD_trans (fD_trans (fD_trans (fD_40 e2) f46) f45) f46') f47
        have hτ45 : ∀ j, j ≤ rest.length → (bw_si (bw_si (bw_si (bw_si ν 46 rest.length (nI v)) 45 (rest.length + 1) (nI v)) 46 (rest.length + 1) (-1)) 47 v 1).1 45 j = μ.1 45 j := fun j hj => by
          rw [bq_sin _ _ (by omega), bq_sin _ _ (by omega), bq_sin _ _ (by omega), bq_sin _ _ (by omega), e2.1 45 (by omega)]
        have hτ45v : (bw_si (bw_si (bw_si (bw_si ν 46 rest.length (nI v)) 45 (rest.length + 1) (nI v)) 46 (rest.length + 1) (-1)) 47 v 1).1 45 (rest.length + 1) = nI v := by
          rw [bq_sin _ _ (by omega), bq_sin _ _ (by omega), bq_sie]
        have hτ46 : ∀ j, j < rest.length → (bw_si (bw_si (bw_si (bw_si ν 46 rest.length (nI v)) 45 (rest.length + 1) (nI v)) 46 (rest.length + 1) (-1)) 47 v 1).1 46 j = μ.1 46 j := fun j hj => by
          rw [bq_sin _ _ (by omega), bq_sin _ _ (by omega), bq_sin _ _ (by omega), bq_sin _ _ (by omega), e2.1 46 (by omega)]
        have hτ46l : (bw_si (bw_si (bw_si (bw_si ν 46 rest.length (nI v)) 45 (rest.length + 1) (nI v)) 46 (rest.length + 1) (-1)) 47 v 1).1 46 rest.length = nI v := by
          rw [bq_sin _ _ (by omega), bq_sin _ _ (by omega), bq_sin _ _ (by omega), bq_sie]
        have hτ46m : (bw_si (bw_si (bw_si (bw_si ν 46 rest.length (nI v)) 45 (rest.length + 1) (nI v)) 46 (rest.length + 1) (-1)) 47 v 1).1 46 (rest.length + 1) = -1 := by
          rw [bq_sin _ _ (by omega), bq_sie]
        have hτ47 : bw_onm S (bw_si (bw_si (bw_si (bw_si ν 46 rest.length (nI v)) 45 (rest.length + 1) (nI v)) 46 (rest.length + 1) (-1)) 47 v 1) (v :: a :: rest) := fun u hu => by
          by_cases huv : u = v
          · rw [huv, bq_sie, if_pos (by simp)]
          · rw [bq_sin _ _ (by omega), bq_sin _ _ (by omega), bq_sin _ _ (by omega), bq_sin _ _ (by omega), e2.1 47 (by omega), hon u hu]
            have : (v :: a :: rest).contains u = (a :: rest).contains u := by
              rw [List.contains_cons]
              have : (u == v) = false := by simpa using huv
              rw [this, Bool.false_or]
            rw [this]
        generalize bw_si (bw_si (bw_si (bw_si ν 46 rest.length (nI v)) 45 (rest.length + 1) (nI v)) 46 (rest.length + 1) (-1)) 47 v 1 = τ at fall hτ45 hτ45v hτ46 hτ46l hτ46m hτ47 ⊢
        have hRτ := fD_r fall hR
        have hrdτ : bw_rdm τ (a :: rest) := rdm_fr _ hrd (fun j hj => hτ45 j (by rw [List.length_cons] at hj; omega))
        have hd2 : (v :: a :: rest).Nodup := List.nodup_cons.2 ⟨hvl.2, hd⟩
        have hall2 : ∀ z, z ∈ v :: a :: rest → z < gN S := fun z hz => by
          rcases List.mem_cons.1 hz with h | h
          · rw [h]; exact hvn
          · exact hall z h
        have hlen2 : rest.length + 2 ≤ gN S := by
          have := List.Nodup.length_le_of_subset hd2 (l₂ := List.range (gN S)) (fun z hz => List.mem_range.2 (hall2 z hz))
          rwa [List.length_range, List.length_cons, List.length_cons] at this
        obtain ⟨π, p4, p5, g1, g2, g3⟩ := ih ((13 - (rest.length + 2)) * 20 + (13 - 0)) (by omega) v (a :: rest) 0 (by rw [List.length_cons]) (by omega) hall2 hvl.1 hd2 (some (.inl (nI a))) (some (.inl (nI v))) τ hRτ ⟨by rw [List.length_cons]; exact hτ45v, hrdτ⟩ hτ47 (by rw [List.length_cons, hτ46m]; rfl)
        rw [List.length_cons] at g2 g3
        have hF := F_step (y := y) e3 e6 hvy
        by_cases hF1 : g_F S x y (v :: a :: rest) 0
        · exact ⟨π, none, none, fD_trans fall g1, fun _ => g2 hF1, fun hno => absurd (hF.2 (Or.inl hF1)) hno⟩
        · obtain ⟨k1, k2, k3⟩ := g3 hF1
          rw [show nI (rest.length + 1) - 1 = nI rest.length from nI_pred _] at k1
          have hRπ := fD_r (fD_trans fall g1) hR
          have hlast := k3 rest.length (by omega)
          obtain ⟨σ, q4, q5, h1, h2, h3⟩ := ih ((13 - (rest.length + 1)) * 20 + (13 - (v + 1))) (by omega) a rest (v + 1) rfl (by omega) hall ho hd p4 p5 π hRπ (rdm_fr _ hrdτ (fun j hj => (k3 j (by rw [List.length_cons] at hj; omega)).1)) k2 (by rw [hlast.2, hτ46l, nI_1])
          refine ⟨σ, q4, q5, fD_trans (fD_trans fall g1) h1, fun hf => ?_, fun hno => ?_⟩
          · rw [k1]
            exact h2 ((hF.1 hf).elim (fun h => absurd h hF1) id)
          · obtain ⟨m1, m2, m3⟩ := h3 (fun h => hno (hF.2 (Or.inr h)))
            refine ⟨k1.trans m1, m2, fun j hj => ?_⟩
            rw [(m3 j hj).1, (m3 j hj).2, (k3 j (by omega)).1, (k3 j (by omega)).2]
            exact ⟨hτ45 j (by omega), hτ46 j hj⟩
      · have hvn' : v = gN S := by omega
        rw [if_neg (nI_nlt (by omega) (by omega)), if_pos ((bq_ii (by omega)).2 (by omega)), nI_clamp (by omega), bq_vn0, qX4_apart_201, show nI rest.length + (-1 : Int32) = nI rest.length - 1 from (Int32.sub_eq_add_neg (nI rest.length) 1).symm]
        have f47 := fD_si (bw_si ν 46 rest.length (nI v)) 47 a 0 (by omega)
        refine ⟨bw_si (bw_si ν 46 rest.length (nI v)) 47 a 0, some (.inl (nI a)), some (.inl (nI v)), fD_trans (fD_trans (fD_40 e2) f46) f47, fun hf => absurd hf (F_end hS (fun w h1 h2 => e6 w h1 (by omega))), fun _ => ⟨rfl, fun u hu => ?_, fun j hj => ?_⟩⟩
        · have har : a ∉ rest := (List.nodup_cons.1 hd).1
          by_cases hua : u = a
          · subst hua
            rw [bq_sie, if_neg (by simpa using har)]
          · rw [bq_sin _ _ (by omega), bq_sin _ _ (by omega), e2.1 47 (by omega), hon u hu]
            have : (a :: rest).contains u = rest.contains u := by
              rw [List.contains_cons]
              have : (u == a) = false := by simpa using hua
              rw [this, Bool.false_or]
            rw [this]
        · rw [bq_sin _ _ (by omega), bq_sin _ _ (by omega), bq_sin _ _ (by omega), bq_sin _ _ (by omega), e2.1 45 (by omega), e2.1 46 (by omega)]
          exact ⟨rfl, rfl⟩
