/-! PURE: the class's ranking of the wholes that it meets. -/
def g_num (n : Nat) (c : Nat → Nat) : Nat := match n with
  | 0 => 0
  | n + 1 => 4 * g_num n c + c n
theorem g_num_lt (n : Nat) (c : Nat → Nat) (h : ∀ x, x < n → c x < 4) : g_num n c < 4 ^ n := by
  induction n with
  | zero => exact Nat.one_pos
  | succ n ih =>
    have h1 := ih (fun x hx => h x (by omega))
    have h2 := h n (by omega)
    show 4 * g_num n c + c n < 4 ^ n * 4
    omega
theorem sS_num_go (d : Nat) {S : bwS} (hS : bwOK S) {μ : bwM} (hR : bwC 2 S μ) {c : Nat → Nat} (hc : ∀ x, x < gN S → μ.1 26 x = nI (c x)) (h4 : ∀ x, x < gN S → c x < 4) (k : Nat) (hk : k ≤ gN S) : eX1_wholeChosen d 4 [some (.inr (.inr 24)), some (.inr (.inr 2)), some (.inl (nI (g_num k c))), some (.inl (nI k))] [] μ = some (some (.inl (nI (g_num (gN S) c))), μ) := by
  have hn := ok_n hS
  induction hj : gN S - k generalizing k with
  | zero =>
    have : k = gN S := by omega
    subst this
    rw [qX1_wholeChosen_4, rc_n hR, if_pos (nI_le (by omega) (by omega))]
  | succ j ih =>
    have hlt := g_num_lt k c (fun x hx => h4 x (by omega))
    have hle : 4 ^ k ≤ 4 ^ 11 := Nat.pow_le_pow_right (by omega) (by omega)
    have hcv := h4 k (by omega)
    rw [qX1_wholeChosen_4, rc_n hR, if_neg (nI_ge (by omega) (by omega)), if_pos ((bq_ii (by omega)).2 (by omega)), nI_clamp (by omega), hc k (by omega), pk_shlN ((2 : Int32) &&& 31) 2 (by decide) (by omega), nI_or, nI_1]
    have : g_num k c * 2 ^ 2 ||| c k = g_num (k + 1) c := by
      show _ = 4 * g_num k c + c k
      rw [Nat.mul_comm, ← Nat.two_pow_add_eq_or_of_lt (i := 2) hcv]
    rw [this]
    exact ih (k + 1) (by omega) (by omega)
theorem sS_num (d : Nat) {S : bwS} (hS : bwOK S) {μ : bwM} (hR : bwC 2 S μ) {c : Nat → Nat} (hc : ∀ x, x < gN S → μ.1 26 x = nI (c x)) (h4 : ∀ x, x < gN S → c x < 4) : bw_call (d + 1) 13 [.inr (.inr 24), .inr (.inr 2)] μ = some (some (.inl (nI (g_num (gN S) c))), μ) := by
  rw [qX1_wholeChosen]
  exact sS_num_go d hS hR hc h4 0 (by omega)
/-- an entry stands before another -/
def bp_bef (e f : Nat × Nat) : Bool := decide (f.1 < e.1) || (e.1 == f.1 && decide (e.2 < f.2))
/-- an entry in memory -/
def bw_en (μ : bwM) (j : Nat) (e : Nat × Nat) : Prop := μ.2 28 j = lN e.1 ∧ μ.1 29 j = nI e.2
def bp_sm (e : Nat × Nat) : Prop := e.1 < 2 ^ 63 ∧ e.2 < 2 ^ 31
theorem sS_bef (d : Nat) {μ : bwM} {j : Nat} (hj : j < 10) {e f : Nat × Nat} (he : bp_sm e) (hf : bp_sm f) (h : bw_en μ j f) : bw_call (d + 1) 12 [.inr (.inr 24), .inr (.inl (lN e.1)), .inl (nI e.2), .inl (nI j)] μ = some (some (.inl (if bp_bef e f = true then 1 else 0)), μ) := by
  rw [qX1_isBefore, bq_0, bq_1]
  simp only [bq_it hj (by decide)]
  rw [nI_clamp (by omega), h.1, h.2]
  unfold bp_bef
  by_cases h1 : f.1 < e.1
  · rw [if_pos ((lg_cmp_gt _ _).2 ((pk_lLT hf.1 he.1).2 h1)), if_pos (by simp [h1])]
  · rw [if_neg (fun h => h1 ((pk_lLT hf.1 he.1).1 ((lg_cmp_gt _ _).1 h)))]
    by_cases h2 : e.1 = f.1
    · rw [if_pos ((lg_cmp_eq _ _).2 (by rw [h2]))]
      by_cases h3 : e.2 < f.2
      · rw [if_neg (nI_ge h3 hf.2), if_pos (by simp [h2, h3])]
      · rw [if_pos (nI_le (by omega) he.2), if_neg (by simp [h2, h3])]
    · rw [if_neg (fun h => h2 ((pk_lEQ he.1 hf.1).1 ((lg_cmp_eq _ _).1 h))), if_neg (by simp [h1, h2])]
/-- the place of an entry, from the end of a list -/
def bp_pl (b : Nat → Bool) : Nat → Nat
  | 0 => 0
  | p + 1 => if b p = true then bp_pl b p else p + 1
theorem bp_pl_le (b : Nat → Bool) (p : Nat) : bp_pl b p ≤ p := by
  induction p with
  | zero => exact Nat.le_refl _
  | succ p ih =>
    rw [bp_pl]
    split
    · omega
    · exact Nat.le_refl _
theorem sS_meet_go (d : Nat) {l : List (Nat × Nat)} {e : Nat × Nat} (he : bp_sm e) (hl : l.length ≤ 9) (hs : ∀ f, f ∈ l → bp_sm f) (p : Nat) (hp : p ≤ l.length) (μ : bwM) (h1 : ∀ j (h : j < l.length), j < p → bw_en μ j l[j]) (h2 : ∀ j (h : j < l.length), p ≤ j → bw_en μ (j + 1) l[j]) : ∃ ν : bwM, eX1_meet (d + 1) 74 [some (.inr (.inr 24)), some (.inr (.inr 2)), some (.inr (.inl (lN e.1))), none, some (.inl (nI e.2)), some (.inl (nI p))] [] μ = some (none, ν) ∧ (∀ j (h : j < l.length), j < bp_pl (fun j => bp_bef e (l.getD j (0, 0))) p → bw_en ν j l[j]) ∧ bw_en ν (bp_pl (fun j => bp_bef e (l.getD j (0, 0))) p) e ∧ (∀ j (h : j < l.length), bp_pl (fun j => bp_bef e (l.getD j (0, 0))) p ≤ j → bw_en ν (j + 1) l[j]) ∧ (∀ c, c ≠ 29 → ν.1 c = μ.1 c) ∧ (∀ c, c ≠ 28 → ν.2 c = μ.2 c) := by
  induction p generalizing μ with
  | zero =>
    refine ⟨bw_si (bw_sl μ 28 0 (lN e.1)) 29 0 (nI e.2), ?_, fun j h h' => (by have : j < 0 := h'; omega), ⟨?_, ?_⟩, fun j h h' => ?_, fun c hc => ?_, fun c hc => ?_⟩
    · rw [qX1_meet_74, if_pos (by decide), qX1_meet_131, if_pos (by decide), if_pos (by decide)]
      rfl
    · rw [bq_si2, bq_sl2]; exact if_pos ⟨rfl, rfl⟩
    · exact bq_sie _ _ _ _
    · have := h2 j h (by omega)
      refine ⟨?_, ?_⟩
      · rw [bq_si2, bq_sl2, if_neg (by omega)]; exact this.1
      · rw [bq_sin _ _ (by omega), bq_sl1]; exact this.2
    · funext j; rw [bq_sin _ _ (by omega), bq_sl1]
    · funext j; rw [bq_si2, bq_sl2, if_neg (by omega)]
  | succ p ih =>
    have hp' : p < l.length := by omega
    have hen := h1 p hp' (by omega)
    have hgd : l.getD p (0, 0) = l[p] := by rw [List.getD_eq_getElem?_getD, List.getElem?_eq_getElem hp']; rfl
    rw [qX1_meet_74, if_neg (nI_nle (by omega) (by omega)), nI_pred, sS_bef _ (by omega) he (hs _ (List.getElem_mem hp')) hen, bq_I]
    unfold bp_pl
    rw [hgd]
    by_cases hb : bp_bef e l[p] = true
    · rw [if_pos hb, if_pos hb, if_neg bq_ne10]
      simp only [bq_it (show p < 10 by omega) (by decide), bq_it (show p + 1 < 10 by omega) (by decide)]
      rw [nI_clamp (by omega), nI_clamp (by omega), bq_sl1, pk_m1]
      obtain ⟨ν, e1, e2, e3, e4, e5, e6⟩ := ih (by omega) (bw_si (bw_sl μ 28 (p + 1) (μ.2 28 p)) 29 (p + 1) (μ.1 29 p)) (fun j h h' => by
        have := h1 j h (by omega)
        refine ⟨?_, ?_⟩
        · rw [bq_si2, bq_sl2, if_neg (by omega)]; exact this.1
        · rw [bq_sin _ _ (by omega), bq_sl1]; exact this.2) (fun j h h' => by
        by_cases hjp : j = p
        · subst hjp
          refine ⟨?_, ?_⟩
          · rw [bq_si2, bq_sl2, if_pos ⟨rfl, rfl⟩]; exact hen.1
          · rw [bq_sie]; exact hen.2
        · have := h2 j h (by omega)
          refine ⟨?_, ?_⟩
          · rw [bq_si2, bq_sl2, if_neg (by omega)]; exact this.1
          · rw [bq_sin _ _ (by omega), bq_sl1]; exact this.2)
      refine ⟨ν, e1, e2, e3, e4, fun c hc => ?_, fun c hc => ?_⟩
      · rw [e5 c hc]; funext j; rw [bq_sin _ _ (by omega), bq_sl1]
      · rw [e6 c hc]; funext j; rw [bq_si2, bq_sl2, if_neg (by omega)]
    · rw [if_neg hb, if_neg hb, if_pos rfl]
      refine ⟨bw_si (bw_sl μ 28 (p + 1) (lN e.1)) 29 (p + 1) (nI e.2), ?_, fun j h h' => ?_, ⟨?_, ?_⟩, fun j h h' => ?_, fun c hc => ?_, fun c hc => ?_⟩
      · rw [qX1_meet_131]
        simp only [bq_it (show p + 1 < 10 by omega) (by decide)]
        rw [nI_clamp (by omega)]
      · have := h1 j h h'
        refine ⟨?_, ?_⟩
        · rw [bq_si2, bq_sl2, if_neg (by omega)]; exact this.1
        · rw [bq_sin _ _ (by omega), bq_sl1]; exact this.2
      · rw [bq_si2, bq_sl2, if_pos ⟨rfl, rfl⟩]
      · exact bq_sie _ _ _ _
      · have := h2 j h h'
        refine ⟨?_, ?_⟩
        · rw [bq_si2, bq_sl2, if_neg (by omega)]; exact this.1
        · rw [bq_sin _ _ (by omega), bq_sl1]; exact this.2
      · funext j; rw [bq_sin _ _ (by omega), bq_sl1]
      · funext j; rw [bq_si2, bq_sl2, if_neg (by omega)]
/-- an entry put into a list from its end -/
def bp_in (b : Nat × Nat → Bool) (e : Nat × Nat) (l : List (Nat × Nat)) : List (Nat × Nat) := l.insertIdx (bp_pl (fun j => b (l.getD j (0, 0))) l.length) e
/-- the same into a list of at most w -/
def bp_ins (w : Nat) (e : Nat × Nat) (l : List (Nat × Nat)) : List (Nat × Nat) := if w = 0 then l else if l.length < w then bp_in (bp_bef e) e l else if bp_bef e (l.getD (l.length - 1) (0, 0)) = true then bp_in (bp_bef e) e l.dropLast else l
theorem bp_in_len (b : Nat × Nat → Bool) (e : Nat × Nat) (l : List (Nat × Nat)) : (bp_in b e l).length = l.length + 1 := List.length_insertIdx_of_le_length (bp_pl_le _ _) _
theorem bp_in_en {μ : bwM} {b : Nat × Nat → Bool} {e : Nat × Nat} {l : List (Nat × Nat)} (h1 : ∀ j (h : j < l.length), j < bp_pl (fun j => b (l.getD j (0, 0))) l.length → bw_en μ j l[j]) (h2 : bw_en μ (bp_pl (fun j => b (l.getD j (0, 0))) l.length) e) (h3 : ∀ j (h : j < l.length), bp_pl (fun j => b (l.getD j (0, 0))) l.length ≤ j → bw_en μ (j + 1) l[j]) : ∀ j (h : j < (bp_in b e l).length), bw_en μ j (bp_in b e l)[j] := by
  intro j h
  have hlen := bp_in_len b e l
  have hpl := bp_pl_le (fun j => b (l.getD j (0, 0))) l.length
  unfold bp_in at h ⊢
  rw [List.getElem_insertIdx]
  by_cases k1 : j < bp_pl (fun j => b (l.getD j (0, 0))) l.length
  · rw [dif_pos k1]; exact h1 j (by omega) k1
  · rw [dif_neg k1]
    by_cases k2 : j = bp_pl (fun j => b (l.getD j (0, 0))) l.length
    · rw [dif_pos k2]
      rw [k2]; exact h2
    · rw [dif_neg k2]
      have hjl : j - 1 < l.length := by
        unfold bp_in at hlen
        omega
      have := h3 (j - 1) hjl (by omega)
      rw [show j - 1 + 1 = j by omega] at this
      exact this
/-- the ranking in memory: how many met, how many wanted, the list -/
def bwK (μ : bwM) (m w : Nat) (l : List (Nat × Nat)) : Prop := μ.1 24 9 = nI m ∧ μ.1 24 6 = nI w ∧ μ.1 24 5 = nI l.length ∧ l.length ≤ w ∧ w ≤ 10 ∧ (∀ j (h : j < l.length), bw_en μ j l[j]) ∧ (∀ f, f ∈ l → bp_sm f)
theorem bp_in_mem {b : Nat × Nat → Bool} {e f : Nat × Nat} {l : List (Nat × Nat)} (h : f ∈ bp_in b e l) : f = e ∨ f ∈ l := by
  unfold bp_in at h
  rw [List.mem_insertIdx (bp_pl_le _ _)] at h
  exact h
/-- Survey.meet -/
theorem sS_meet (d : Nat) {S : bwS} (hS : bwOK S) {μ : bwM} (hR : bwC 2 S μ) {c : Nat → Nat} (hc : ∀ x, x < gN S → μ.1 26 x = nI (c x)) (h4 : ∀ x, x < gN S → c x < 4) {m w : Nat} {l : List (Nat × Nat)} (hK : bwK μ m w l) {L : Nat} (hL : L < 2 ^ 63) : ∃ ν, bw_call (d + 3) 11 [.inr (.inr 24), .inr (.inr 2), .inr (.inl (lN L))] μ = some (none, ν) ∧ bwK ν (m + 1) w (bp_ins w (L, g_num (gN S) c) l) ∧ (∀ c, c ≠ 24 → c ≠ 29 → ν.1 c = μ.1 c) ∧ (∀ j, j ≠ 5 → j ≠ 9 → ν.1 24 j = μ.1 24 j) ∧ (∀ c, c ≠ 28 → ν.2 c = μ.2 c) := by
  obtain ⟨k1, k2, k3, k4, k5, k6, k7⟩ := hK
  have hn := ok_n hS
  have hnum := g_num_lt (gN S) c h4
  have hle : 4 ^ gN S ≤ 4 ^ 12 := Nat.pow_le_pow_right (by omega) (by omega)
  have he : bp_sm (L, g_num (gN S) c) := ⟨hL, (by show g_num (gN S) c < 2 ^ 31; omega)⟩
  have hq : ∀ c j, ¬ (c = 24 ∧ j = 9) → (bw_si μ 24 9 (nI (m + 1))).1 c j = μ.1 c j := fun c j h => bq_sin _ _ (by omega)
  have hq9 : (bw_si μ 24 9 (nI (m + 1))).1 24 9 = nI (m + 1) := bq_sie _ _ _ _
  have hq2 : (bw_si μ 24 9 (nI (m + 1))).2 = μ.2 := rfl
  rw [qX1_meet, k1, nI_1]
  generalize bw_si μ 24 9 (nI (m + 1)) = π at hq hq9 hq2 ⊢
  have hqc : ∀ c, c ≠ 24 → π.1 c = μ.1 c := fun c hc => funext (fun j => hq c j (by omega))
  rw [hq 24 6 (by omega), k2]
  unfold bp_ins
  by_cases hw : w = 0
  · subst hw
    rw [if_pos (by decide), if_pos rfl]
    refine ⟨π, rfl, ⟨hq9, ?_, ?_, k4, k5, fun j h => ?_, k7⟩, fun c h1 h2 => hqc c h1, fun j h1 h2 => hq _ _ (by omega), fun c _ => by rw [hq2]⟩
    · rw [hq 24 6 (by omega)]; exact k2
    · rw [hq 24 5 (by omega)]; exact k3
    · exact ⟨by rw [hq2]; exact (k6 j h).1, by rw [hqc 29 (by omega)]; exact (k6 j h).2⟩
  · have hRπ : bwC 2 S π := fr_c hR (fun i hi => hqc _ (by omega))
    rw [if_neg (nI_ne0 (by omega) (by omega)), if_neg hw, sS_num (d + 1) hS hRπ (fun x hx => by rw [hqc 26 (by omega)]; exact hc x hx) h4, bq_I, hq 24 6 (by omega), hq 24 5 (by omega), k2, k3]
    by_cases hlw : l.length < w
    · rw [if_neg (nI_ge hlw (by omega)), if_pos hlw, nI_1, qX1_meet_66, bq_sie, nI_pred]
      obtain ⟨ν, e1, e2, e3, e4, e5, e6⟩ := sS_meet_go (d + 1) he (by omega) k7 l.length (Nat.le_refl _) (bw_si π 24 5 (nI (l.length + 1))) (fun j h _ => ⟨by rw [bq_si2, hq2]; exact (k6 j h).1, by rw [bq_sin _ _ (by omega), hqc 29 (by omega)]; exact (k6 j h).2⟩) (fun j h h' => by omega)
      refine ⟨ν, e1, ⟨?_, ?_, ?_, ?_, k5, bp_in_en e2 e3 e4, fun f hf => ?_⟩, fun c h1 h2 => ?_, fun j h1 h2 => ?_, fun c hc' => ?_⟩
      · rw [e5 24 (by omega), bq_sin _ _ (by omega)]; exact hq9
      · rw [e5 24 (by omega), bq_sin _ _ (by omega), hq _ _ (by omega)]; exact k2
      · rw [e5 24 (by omega), bq_sie, bp_in_len]
      · rw [bp_in_len]; omega
      · rcases bp_in_mem hf with h | h
        · rw [h]; exact he
        · exact k7 f h
      · rw [e5 c h2, ← hqc c h1]; funext j; exact bq_sin _ _ (by omega)
      · rw [e5 24 (by omega), bq_sin _ _ (by omega), hq _ _ (by omega)]
      · rw [e6 c hc', bq_si2, hq2]
    · have hwl : l.length = w := by omega
      obtain ⟨q, hqq⟩ : ∃ q, l.length = q + 1 := ⟨l.length - 1, by omega⟩
      have hql : q < l.length := by omega
      have hgd : l.getD (l.length - 1) (0, 0) = l[q] := by
        rw [show l.length - 1 = q by omega, List.getD_eq_getElem?_getD, List.getElem?_eq_getElem hql]; rfl
      have hen : bw_en π q l[q] := ⟨by rw [hq2]; exact (k6 q hql).1, by rw [hqc 29 (by omega)]; exact (k6 q hql).2⟩
      rw [if_pos (nI_le (by omega) (by omega)), if_neg hlw, hgd, hqq, nI_pred, sS_bef _ (by omega) he (k7 _ (List.getElem_mem hql)) hen, bq_I]
      by_cases hb : bp_bef (L, g_num (gN S) c) l[q] = true
      · rw [if_pos hb, if_pos hb, if_neg bq_ne10, qX1_meet_66, hq 24 5 (by omega), k3, hqq, nI_pred]
        have hdl : l.dropLast.length = q := by rw [List.length_dropLast]; omega
        have hdg : ∀ j (h : j < l.dropLast.length), l.dropLast[j] = l[j]'(by omega) := fun j h => List.getElem_dropLast h
        obtain ⟨ν, e1, e2, e3, e4, e5, e6⟩ := sS_meet_go (d + 1) (l := l.dropLast) he (by omega) (fun f hf => k7 f (List.dropLast_subset l hf)) q (by omega) π (fun j h _ => ⟨by rw [hq2, hdg j h]; exact (k6 j _).1, by rw [hqc 29 (by omega), hdg j h]; exact (k6 j _).2⟩) (fun j h h' => by omega)
        rw [← hdl] at e1 e2 e3 e4
        refine ⟨ν, by rw [← hdl]; exact e1, ⟨?_, ?_, ?_, ?_, k5, bp_in_en e2 e3 e4, fun f hf => ?_⟩, fun c h1 h2 => ?_, fun j h1 h2 => ?_, fun c hc' => ?_⟩
        · rw [e5 24 (by omega)]; exact hq9
        · rw [e5 24 (by omega), hq _ _ (by omega)]; exact k2
        · rw [e5 24 (by omega), hq _ _ (by omega), bp_in_len, hdl, k3, hqq]
        · rw [bp_in_len]; omega
        · rcases bp_in_mem hf with h | h
          · rw [h]; exact he
          · exact k7 f (List.dropLast_subset l h)
        · rw [e5 c h2, hqc c h1]
        · rw [e5 24 (by omega), hq _ _ (by omega)]
        · rw [e6 c hc', hq2]
      · rw [if_neg hb, if_neg hb, if_pos rfl]
        refine ⟨π, rfl, ⟨hq9, ?_, ?_, k4, k5, fun j h => ?_, k7⟩, fun c h1 h2 => hqc c h1, fun j h1 h2 => hq _ _ (by omega), fun c _ => by rw [hq2]⟩
        · rw [hq 24 6 (by omega)]; exact k2
        · rw [hq 24 5 (by omega)]; exact k3
        · exact ⟨by rw [hq2]; exact (k6 j h).1, by rw [hqc 29 (by omega)]; exact (k6 j h).2⟩
