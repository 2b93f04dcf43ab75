/-! PURE: the class's surveys. -/
theorem sS_spread (d : Nat) {S : bwS} (hS : bwOK S) (held : Option (Nat × Nat)) (ord : List Nat) (hol : ord.length = gN S) (B : Nat) (hB : B < 2 ^ 63) (rest : List Nat) (i : Nat) (hr : rest = ord.drop i) (hi : i ≤ gN S) (hnd : rest.Nodup) (htl : bp_tl S rest) (hlt : ∀ y, y ∈ rest → y < gN S) (c : Nat → Nat) (P m w : Nat) (l : List (Nat × Nat)) (μ : bwM) (h : bw_spH S held ord B rest c P m w l μ) : ∃ ν, bw_call (d + rest.length + 4) 10 [.inr (.inr 2), .inr (.inr 24), .inl (nI i), .inr (.inl (lN P))] μ = some (some (.inr (.inl (lN (bp_S (g_lik S) (bp_en (gV S) (g_ok S held) rest c))))), ν) ∧ bw_spC S rest (bp_en (gV S) (g_ok S held) rest c) m w l μ ν := by
  have hn := ok_n hS
  induction rest generalizing i c P m w l μ with
  | nil =>
    obtain ⟨h1, h2, h3, h4, h5, h6, h7, h8, h9⟩ := h
    have hin : i = gN S := by
      have := congrArg List.length hr
      rw [List.length_nil, List.length_drop] at this
      omega
    have hlik : P = g_lik S c := by
      have := h7 c (fun _ _ => rfl)
      rwa [List.map_nil, List.prod_nil, Nat.mul_one] at this
    have hP : P ≤ B := by rwa [List.map_nil, List.prod_nil, Nat.mul_one] at h9
    obtain ⟨ν, e1, e2, e3, e4, e5⟩ := sS_meet d hS h1 (fun x hx => h4 x hx (by simp)) (fun x hx => by have := h5 x hx; have := ok_v4 hS hx; omega) h6 (L := P) (by omega)
    refine ⟨ν, ?_, fun y u hy hu => ?_, ?_, fun cc g1 g2 g3 => e3 cc g1 g3, e4, fun y _ => by rw [e3 26 (by omega) (by omega)], fun cc g1 g2 => e5 cc g2⟩
    · rw [qX1_spread, rc_n h1, if_pos (nI_le (by omega) (by omega)), qX1_spread_14]
      show bw_bV (bw_call (d + 3) 11 _ μ) _ _ = _
      rw [e1, bq_V, bp_en, bp_S_one, hlik]
    · rw [if_neg (by simp), lN_zero, e5 27 (by omega)]
    · rw [bp_en]
      show bwK ν (m + 1) w (bp_ins w (g_lik S c, g_num (gN S) c) l)
      rw [← hlik]; exact e2
  | cons x t ih =>
    have h0 := h
    obtain ⟨h1, h2, h3, h4, h5, h6, h7, h8, h9⟩ := h
    have hx : x < gN S := hlt x List.mem_cons_self
    have hil : i < ord.length := by
      have := congrArg List.length hr
      rw [List.length_cons, List.length_drop] at this
      omega
    rw [List.drop_eq_getElem_cons hil] at hr
    have hxo : ord[i] = x := (List.cons.inj hr).1.symm
    have hto : t = ord.drop (i + 1) := (List.cons.inj hr).2
    have hxt : x ∉ t := (List.nodup_cons.1 hnd).1
    have htl1 : ∀ p, p ∈ gP S x → p ∉ x :: t := htl.1
    have IH := fun (c : Nat → Nat) (P m w : Nat) (l : List (Nat × Nat)) (μ : bwM) (hh : bw_spH S held ord B t c P m w l μ) => ih (i + 1) hto (by omega) (List.nodup_cons.1 hnd).2 htl.2 (fun y hy => hlt y (List.mem_cons_of_mem _ hy)) c P m w l μ hh
    obtain ⟨ν, e1, e2⟩ := sS_spread_in d hS held ord B hB x t i hx hxt htl1 (fun y hy => hlt y (List.mem_cons_of_mem _ hy)) IH c P w (gV S x) 0 (by omega) 0 m l none μ h0
    have hen : bp_enf S held x t c 0 (gV S x) = bp_en (gV S) (g_ok S held) (x :: t) c := by
      unfold bp_enf
      rw [bp_en, List.range_eq_range']
    rw [hen, Nat.zero_add] at e1
    rw [hen] at e2
    refine ⟨ν, ?_, e2⟩
    rw [List.length_cons, show d + (t.length + 1) + 4 = (d + t.length + 4) + 1 by omega, qX1_spread, rc_n h1, if_neg (nI_ge (by omega) (by omega)), if_pos (show nI i < (12 : Int32) from nI_lt (b := 12) (by omega) (by omega)), if_pos ((bq_ii (by omega)).2 (by omega)), nI_clamp (by omega), h2 i hil, hxo, sW_rowAt _ (Or.inl rfl) hS h1 hx (fun p hp => h4 p (ok_pn hS hx hp) (htl1 p hp)), bq_I]
    exact e1
/-- the bound of all sums -/
theorem bp_bound {S : bwS} (hS : bwOK S) (ord : List Nat) (ho : g_ord S ord) : (ord.map (fun x => 3 * gT S x)).prod ≤ 531441000000000 := by
  have hperm : ord.Perm (List.range (gN S)) := (List.perm_ext_iff_of_nodup ho.1 List.nodup_range).2 (fun x => by rw [ho.2.1 x, List.mem_range])
  rw [(hperm.map _).prod_nat]
  have key : ∀ n, ((List.range n).map (fun x => 3 * gT S x)).prod = 3 ^ n * bp_prod (gT S) n := by
    intro n
    induction n with
    | zero => rfl
    | succ n ih =>
      rw [List.range_succ, List.map_append, List.prod_append, ih]
      show 3 ^ n * bp_prod (gT S) n * (3 * gT S n * 1) = 3 ^ n * 3 * (bp_prod (gT S) n * gT S n)
      rw [Nat.mul_one, Nat.mul_mul_mul_comm]
  rw [key]
  exact Nat.le_trans (Nat.mul_le_mul (Nat.pow_le_pow_right (by omega) (ok_n hS)) (ok_pt hS)) (by decide)
theorem g_lik_ord {S : bwS} (ord : List Nat) (ho : g_ord S ord) (c : Nat → Nat) : (ord.map (fun x => g_fc S x c)).prod = g_lik S c := by
  have hperm : ord.Perm (List.range (gN S)) := (List.perm_ext_iff_of_nodup ho.1 List.nodup_range).2 (fun x => by rw [ho.2.1 x, List.mem_range])
  exact (hperm.map _).prod_nat
/-- what a survey leaves: sum, shares, count and ranking of the list met -/
def bw_sv (S : bwS) (M : List (Nat → Nat)) (w : Nat) (ν : bwM) : Prop := ν.2 24 10 = lN (bp_S (g_lik S) M) ∧ (∀ y u, y < gN S → u < 4 → ν.2 27 (4 * y + u) = lN (bp_S (fun c' => if c' y = u then g_lik S c' else 0) M)) ∧ bwK ν M.length w (M.foldl (fun l c' => bp_ins w (g_lik S c', g_num (gN S) c') l) [])
/-- what a survey leaves alone -/
def bw_fS (μ ν : bwM) : Prop := (∀ c, c < 24 ∨ 29 < c → ν.1 c = μ.1 c) ∧ (∀ c, c < 24 ∨ 29 < c → ν.2 c = μ.2 c)
theorem fS_refl (μ : bwM) : bw_fS μ μ := ⟨fun _ _ => rfl, fun _ _ => rfl⟩
theorem fS_trans {μ ν π : bwM} (h : bw_fS μ ν) (h' : bw_fS ν π) : bw_fS μ π := ⟨fun c hc => (h'.1 c hc).trans (h.1 c hc), fun c hc => (h'.2 c hc).trans (h.2 c hc)⟩
theorem fS_c {S : bwS} {μ ν : bwM} (h : bw_fS μ ν) (hR : bwC 2 S μ) : bwC 2 S ν := fr_c hR (fun i hi => h.1 _ (by omega))
theorem sS_zero (d : Nat) (k : Nat) (hk : k ≤ 48) (μ : bwM) : ∃ ν, eX1_start d 2 [some (.inr (.inr 24)), some (.inr (.inr 2)), some (.inl (nI k))] [] μ = eX1_start d 2 [some (.inr (.inr 24)), some (.inr (.inr 2)), some (.inl (nI 48))] [] ν ∧ ν.1 = μ.1 ∧ (∀ c, c ≠ 27 → ν.2 c = μ.2 c) ∧ (∀ j, k ≤ j → j < 48 → ν.2 27 j = lN 0) ∧ (∀ j, j < k → ν.2 27 j = μ.2 27 j) := by
  induction hj : 48 - k generalizing k μ with
  | zero =>
    have : k = 48 := by omega
    subst this
    exact ⟨μ, rfl, rfl, fun _ _ => rfl, fun j h h' => by omega, fun _ _ => rfl⟩
  | succ j ih =>
    obtain ⟨ν, e1, e2, e3, e4, e5⟩ := ih (k + 1) (by omega) (bw_sl μ 27 k (lN 0)) (by omega)
    refine ⟨ν, ?_, e2, fun c hc => ?_, fun j hj hj' => ?_, fun j hj => ?_⟩
    · rw [qX1_start_2, if_neg (show ¬ (48 : Int32) ≤ nI k from nI_ge (b := 48) (by omega) (by omega)), if_pos ((bq_ii (by omega)).2 (by omega)), nI_clamp (by omega), nI_1]
      exact e1
    · rw [e3 c hc]; funext j; rw [bq_sl2, if_neg (by omega)]
    · by_cases hjk : j = k
      · subst hjk
        rw [e5 j (by omega), bq_sl2, if_pos ⟨rfl, rfl⟩]
      · exact e4 j (by omega) hj'
    · rw [e5 j (by omega), bq_sl2, if_neg (by omega)]
theorem sS_start (d : Nat) {S : bwS} (hS : bwOK S) (held : Option (Nat × Nat)) {μ : bwM} (hR : bwC 2 S μ) (hh : bw_hm μ held) {w : Nat} (hw : w ≤ 10) (hwm : μ.1 24 6 = nI w) : ∃ ν ord, bw_call (d + 18) 8 [.inr (.inr 24), .inr (.inr 2)] μ = some (none, ν) ∧ g_ord S ord ∧ bw_sv S (g_met S held ord) w ν ∧ bw_fS μ ν := by
  have hn := ok_n hS
  obtain ⟨π, e1, e2, e3, e4, e5⟩ := sS_zero (d + 17) 0 (by omega) μ
  have hRπ : bwC 2 S (bw_si (bw_si π 24 5 0) 24 9 0) := fr_c hR (fun i hi => by funext j; rw [bq_sin _ _ (by omega), bq_sin _ _ (by omega), e2])
  obtain ⟨ρ, ord, f1, f2, f3, f4, f5, f6⟩ := sS_ord (d + 14) hS _ hRπ
  have hB := bp_bound hS ord f2
  have hρ : ∀ j, j ≠ 5 → j ≠ 9 → ρ.1 24 j = μ.1 24 j := fun j h1 h2 => by
    rw [f6 24 (by omega), bq_sin _ _ (by omega), bq_sin _ _ (by omega), e2]
  have hH : bw_spH S held ord 531441000000000 ord (fun _ => 0) 1 0 w [] ρ := by
    refine ⟨fr_c hRπ (fun i hi => f6 _ (by omega)), f4, ?_, fun y hy hyo => absurd ((f2.2.1 y).2 hy) hyo, fun y hy => (show 0 < gV S y by have := ok_v2 hS hy; omega), ⟨?_, ?_, ?_, Nat.zero_le _, hw, fun j hj => by simp at hj, fun f hf => by simp at hf⟩, fun c' _ => by rw [Nat.one_mul]; exact g_lik_ord ord f2 c', by omega, by rw [Nat.one_mul]; exact hB⟩
    · cases held with
      | none =>
        show ρ.1 24 7 = -1
        rw [hρ 7 (by omega) (by omega)]; exact hh
      | some ab =>
        obtain ⟨a, b⟩ := ab
        show ρ.1 24 7 = nI a ∧ ρ.1 24 8 = nI b ∧ a < 12 ∧ b < 4
        rw [hρ 7 (by omega) (by omega), hρ 8 (by omega) (by omega)]; exact hh
    · rw [f6 24 (by omega), bq_sie]; rfl
    · rw [hρ 6 (by omega) (by omega)]; exact hwm
    · rw [f6 24 (by omega), bq_sin _ _ (by omega), bq_sie]; rfl
  obtain ⟨τ, g1, g2, g3, g4, g5, g6, g7⟩ := sS_spread (d + 13 - ord.length) hS held ord f3 531441000000000 (by decide) ord 0 (by simp) (by omega) f2.1 f2.2.2 (fun y hy => (f2.2.1 y).1 hy) _ 1 0 w [] ρ hH
  rw [show d + 13 - ord.length + ord.length + 4 = d + 17 by omega] at g1
  refine ⟨bw_sl τ 24 10 (lN (bp_S (g_lik S) (g_met S held ord))), ord, ?_, f2, ⟨?_, fun y u hy hu => ?_, ?_⟩, fun c hc => ?_, fun c hc => ?_⟩
  · rw [qX1_start, show (0 : Int32) = nI 0 from rfl, e1, qX1_start_2, if_pos (by decide), f1, bq_V, show (0 : Int32) = nI 0 from rfl, show Int64.ofNat 1 = lN 1 from rfl, g1, bq_L]
    rfl
  · rw [bq_sl2, if_pos ⟨rfl, rfl⟩]
  · rw [bq_sl2, if_neg (by omega), g2 y u (by omega) hu, if_pos ((f2.2.1 y).2 hy), f5, bq_si2, bq_si2, e4 _ (by omega) (by omega), lN_add, Nat.zero_add]
    rfl
  · obtain ⟨k1, k2, k3, k4, k5, k6, k7⟩ := g3
    rw [Nat.zero_add] at k1
    exact ⟨k1, k2, k3, k4, k5, fun j hj => ⟨by rw [bq_sl2, if_neg (by omega)]; exact (k6 j hj).1, (k6 j hj).2⟩, k7⟩
  · rw [bq_sl1, g4 c (by omega) (by omega) (by omega), f6 c (by omega)]
    funext j
    rw [bq_sin _ _ (by omega), bq_sin _ _ (by omega), e2]
  · funext j
    rw [bq_sl2, if_neg (by omega), g7 c (by omega) (by omega), f5, bq_si2, bq_si2, e3 c (by omega)]
theorem fS_24 {μ ν : bwM} (h1 : ∀ c, c ≠ 24 → ν.1 c = μ.1 c) (h2 : ν.2 = μ.2) : bw_fS μ ν := ⟨fun c hc => h1 c (by omega), fun c hc => by rw [h2]⟩
/-- Survey.goOver -/
theorem sS_goOver (d : Nat) {S : bwS} (hS : bwOK S) {μ : bwM} (hR : bwC 2 S μ) : ∃ ν ord, bw_call (d + 19) 5 [.inr (.inr 24), .inr (.inr 2)] μ = some (none, ν) ∧ g_ord S ord ∧ bw_sv S (g_met S none ord) 0 ν ∧ bw_fS μ ν := by
  have hf : bw_fS μ (bw_si (bw_si μ 24 7 (-1)) 24 6 0) := fS_24 (fun c hc => by funext j; rw [bq_sin _ _ (by omega), bq_sin _ _ (by omega)]) rfl
  obtain ⟨ν, ord, e1, e2, e3, e4⟩ := sS_start d hS none (fS_c hf hR) (by show (bw_si (bw_si μ 24 7 (-1)) 24 6 0).1 24 7 = -1; rw [bq_sin _ _ (by omega), bq_sie]) (w := 0) (by omega) (bq_sie _ _ _ _)
  exact ⟨ν, ord, by rw [qX1_goOver, e1, bq_V], e2, e3, fS_trans hf e4⟩
/-- Survey.goOverThoseWith -/
theorem sS_goWith (d : Nat) {S : bwS} (hS : bwOK S) {μ : bwM} (hR : bwC 2 S μ) {x v : Nat} (hx : x < gN S) (hv : v < gV S x) : ∃ ν ord, bw_call (d + 19) 6 [.inr (.inr 24), .inr (.inr 2), .inl (nI x), .inl (nI v)] μ = some (none, ν) ∧ g_ord S ord ∧ bw_sv S (g_met S (some (x, v)) ord) 0 ν ∧ bw_fS μ ν := by
  have hn := ok_n hS
  have h4 := ok_v4 hS hx
  have hf : bw_fS μ (bw_si (bw_si (bw_si μ 24 7 (nI x)) 24 8 (nI v)) 24 6 0) := fS_24 (fun c hc => by funext j; rw [bq_sin _ _ (by omega), bq_sin _ _ (by omega), bq_sin _ _ (by omega)]) rfl
  obtain ⟨ν, ord, e1, e2, e3, e4⟩ := sS_start d hS (some (x, v)) (fS_c hf hR) ⟨by rw [bq_sin _ _ (by omega), bq_sin _ _ (by omega), bq_sie], by rw [bq_sin _ _ (by omega), bq_sie], by omega, by omega⟩ (w := 0) (by omega) (bq_sie _ _ _ _)
  exact ⟨ν, ord, by rw [qX1_goOverThoseWith, e1, bq_V], e2, e3, fS_trans hf e4⟩
/-- Survey.rank -/
theorem sS_rank (d : Nat) {S : bwS} (hS : bwOK S) {μ : bwM} (hR : bwC 2 S μ) {w : Nat} (hw : w ≤ 10) : ∃ ν ord, bw_call (d + 19) 7 [.inr (.inr 24), .inr (.inr 2), .inl (nI w)] μ = some (none, ν) ∧ g_ord S ord ∧ bw_sv S (g_met S none ord) w ν ∧ bw_fS μ ν := by
  have hf : bw_fS μ (bw_si (bw_si μ 24 7 (-1)) 24 6 (nI w)) := fS_24 (fun c hc => by funext j; rw [bq_sin _ _ (by omega), bq_sin _ _ (by omega)]) rfl
  obtain ⟨ν, ord, e1, e2, e3, e4⟩ := sS_start d hS none (fS_c hf hR) (by show (bw_si (bw_si μ 24 7 (-1)) 24 6 (nI w)).1 24 7 = -1; rw [bq_sin _ _ (by omega), bq_sie]) hw (bq_sie _ _ _ _)
  exact ⟨ν, ord, by rw [qX1_rank, if_neg (show ¬ (10 : Int32) < nI w from nI_nlt (a := 10) hw (by omega)), e1, bq_V], e2, e3, fS_trans hf e4⟩
