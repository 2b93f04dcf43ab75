/-! PURE: likeliest, joined. -/
theorem num_inj (n : Nat) (c c' : Nat → Nat) (h4 : ∀ x, x < n → c x < 4) (h4' : ∀ x, x < n → c' x < 4) (h : g_num n c = g_num n c') : ∀ x, x < n → c x = c' x := by
  induction n with
  | zero => intro x hx; omega
  | succ n ih =>
    have h1 := h4 n (by omega)
    have h2 := h4' n (by omega)
    have h3 : 4 * g_num n c + c n = 4 * g_num n c' + c' n := h
    intro x hx
    by_cases hxn : x = n
    · rw [hxn]; omega
    · exact ih (fun x hx => h4 x (by omega)) (fun x hx => h4' x (by omega)) (by omega) x (by omega)
theorem rs_mem (S : bwS) (w : Nat) (l : List (Nat → Nat)) (R : List (Nat × Nat)) (f : Nat × Nat) (h : f ∈ l.foldl (g_rs S w) R) : f ∈ R ∨ ∃ c, c ∈ l ∧ 0 < g_lik S c ∧ f = (g_lik S c, g_num (gN S) c) := by
  induction l generalizing R with
  | nil => exact Or.inl h
  | cons c t ih =>
    rw [List.foldl_cons] at h
    rcases ih _ h with h' | ⟨c', h1, h2, h3⟩
    · unfold g_rs at h'
      by_cases h0 : 0 < g_lik S c
      · rw [if_pos h0] at h'
        rcases ins_mem h' with h'' | h''
        · exact Or.inr ⟨c, List.mem_cons_self, h0, h''⟩
        · exact Or.inl h''
      · rw [if_neg h0] at h'
        exact Or.inl h'
    · exact Or.inr ⟨c', List.mem_cons_of_mem _ h1, h2, h3⟩
theorem S_ge {f : (Nat → Nat) → Nat} {l : List (Nat → Nat)} {c : Nat → Nat} (h : c ∈ l) : f c ≤ bp_S f l := by
  induction l with
  | nil => simp at h
  | cons a t ih =>
    rw [bp_S_cons]
    rcases List.mem_cons.1 h with h' | h'
    · rw [h']; omega
    · have := ih h'; omega
theorem mq_RE {μ ν : bwM} (h : bw_fRE μ ν) : bw_mq μ ν none := ⟨fun c h1 h2 => h.1 c (by omega) (by omega), fun j _ => by rw [h.1 30 (by omega) (by omega)], fun c h1 h2 => funext (fun j => h.2 c j (by omega) h2), h.2 _ _ (by omega) (by omega), h.2 _ _ (by omega) (by omega)⟩
theorem sM_like (d : Nat) {S : bwS} (hS : bwOK S) (hs : g_sound S) {k : Nat} (hk : k ≤ 9) {μ : bwM} (hR : bwR' S μ) : ∃ ν, bw_call (d + 4) 121 [.inr (.inr 30), .inl (nI k)] μ = eX4_likeliest (d + 3) 30 [some (.inr (.inr 30)), some (.inl (nI k)), some (.inl (nI ((g_all S).foldl (g_rs S (k + 1)) []).length)), some (.inl 0), none] [] ν ∧ bw_rl S ν ((g_all S).foldl (g_rs S (k + 1)) []) ∧ ((g_all S).foldl (g_rs S (k + 1)) []).length ≤ k + 1 ∧ bw_fRE μ ν := by
  obtain ⟨ν, e1, e2, e3⟩ := sM_first (d + 2) hS hR
  obtain ⟨t, b, f1, f2, f3⟩ := g_all_path hS
  obtain ⟨τ, g1, g2, g3, g4⟩ := sM_like_go (d + 2) hS hk t _ b f2 f3 (fun c' hc' => ((g_all_mem S c').1 (by rw [f1]; exact hc')).2) [] (Nat.zero_le _) (fun f hf => by simp at hf) ν (fE_r e3 hR) e2 (fun j hj => by simp at hj)
  rw [← f1] at g1 g2 g3
  refine ⟨τ, ?_, g2, g3, fRE_trans (fRE_E e3) g4⟩
  rw [qX4_likeliest, if_neg (nI_pos (by omega)), if_pos (show nI k ≤ (9 : Int32) from nI_le (b := 9) hk (by omega)), sM_nrough _ hS hR hs, bq_I, if_pos rfl, e1, bq_V]
  exact g1
theorem J_likeliest (d : Nat) {μ : bwM} (h : bwInv μ) (x : Int32) : bwJ d 62 121 [.inl x] [.inl x] μ := by
  obtain ⟨st, ac, k, f, m, h⟩ := h
  have hS := inv_ok h
  have hC := h.2.1
  have hR := h.2.2.1
  have hn := ok_n hS
  by_cases hx : ∃ q, q < 10 ∧ x = nI q
  · obtain ⟨q, hq, rfl⟩ := hx
    by_cases hs : g_sound (st k)
    · have hle := g_SUM_le hS hs
      obtain ⟨ν, ord, e1, e2, e3, e4⟩ := sS_rank (d + 20) hS hC (w := q + 1) (by omega)
      have hre := rank_eq hS e2 (w := q + 1) (by omega)
      obtain ⟨_, hK⟩ := e3.2
      rw [hre] at hK
      obtain ⟨kk1, kk2, kk3, kk4, kk5, kk6, kk7⟩ := hK
      have hcl : bw_call (d + 40) 62 [.inr (.inr 0), .inl (nI q)] μ = if nI q < nI ((g_all (st k)).foldl (g_rs (st k) (q + 1)) []).length then bw_bV (bw_call (d + 39) 78 [.inr (.inr 0), .inl (ν.1 29 q)] ν) none (fun m4 => bw_bV (bw_call (d + 39) 76 [.inr (.inr 0), .inr (.inl (m4.2 28 q)), .inr (.inl (m4.2 24 10))] m4) none (fun m5 => some (some (.inl (1 : Int32)), m5))) else some (some (.inl (0 : Int32)), ν) := by
        rw [qX3_likeliest, if_neg (nI_pos (by omega)), if_pos (show nI q < (10 : Int32) from nI_lt (b := 10) hq (by omega)), sW_sound _ (Or.inl rfl) hS hC hs, bq_I, if_neg bq_ne10, nI_1, e1, bq_V, kk3]
        simp only [bq_it hq (by decide), nI_clamp (show q < 2 ^ 31 by omega)]
      by_cases hlen : q < ((g_all (st k)).foldl (g_rs (st k) (q + 1)) []).length
      · rw [if_pos (nI_lt hlen (by omega)), (kk6 q hlen).2] at hcl
        rcases rs_mem (st k) (q + 1) (g_all (st k)) [] _ (List.getElem_mem hlen) with hh | ⟨c, hc1, hc2, hc3⟩
        · simp at hh
        · have hcv := ((g_all_mem (st k) c).1 hc1).2
          have hc4 : ∀ x, x < gN (st k) → c x < 4 := fun x hx => by have := hcv x hx; have := ok_v4 hS hx; omega
          have hsum : g_lik (st k) c ≤ g_SUM (st k) := S_ge hc1
          obtain ⟨ν2, i1, i2, i3, i4, i5⟩ := sB_show (d + 38) hS hc4 (fS_c e4 hC)
          have htB := sB_tell (d + 37) (A := ((g_lik (st k) c : Nat) : Int)) (b := g_SUM (st k)) (by omega) (by omega) (by omega) (by omega) ν2
          rw [hc3, i1, bq_V, i5, (kk6 q hlen).1, e3.1, met_sum e2, hc3, lI_N (g_lik _ _), htB, bq_V] at hcl
          -- the memory behind the class's call
          have hν3 : ∀ cc, 1 < cc → cc < 24 ∨ 29 < cc → (bw_sl (bw_sl ν2 0 5 (lI ((g_lik (st k) c : Nat) : Int) / lN (Nat.gcd ((g_lik (st k) c : Nat) : Int).natAbs (g_SUM (st k))))) 0 6 (lN (g_SUM (st k)) / lN (Nat.gcd ((g_lik (st k) c : Nat) : Int).natAbs (g_SUM (st k))))).1 cc = μ.1 cc := fun cc h1 h2 => (i4 cc (by omega) (by omega)).trans (e4.1 cc h2)
          have hν5 := show (bw_sl (bw_sl ν2 0 5 (lI ((g_lik (st k) c : Nat) : Int) / lN (Nat.gcd ((g_lik (st k) c : Nat) : Int).natAbs (g_SUM (st k))))) 0 6 (lN (g_SUM (st k)) / lN (Nat.gcd ((g_lik (st k) c : Nat) : Int).natAbs (g_SUM (st k))))).2 0 5 = lI ((g_lik (st k) c : Nat) : Int) / lN (Nat.gcd ((g_lik (st k) c : Nat) : Int).natAbs (g_SUM (st k))) by rw [bq_sl2, if_neg (by omega), bq_sle]
          have hν6 := show (bw_sl (bw_sl ν2 0 5 (lI ((g_lik (st k) c : Nat) : Int) / lN (Nat.gcd ((g_lik (st k) c : Nat) : Int).natAbs (g_SUM (st k))))) 0 6 (lN (g_SUM (st k)) / lN (Nat.gcd ((g_lik (st k) c : Nat) : Int).natAbs (g_SUM (st k))))).2 0 6 = lN (g_SUM (st k)) / lN (Nat.gcd ((g_lik (st k) c : Nat) : Int).natAbs (g_SUM (st k))) from bq_sle _ _ _ _
          have hν04 := show (bw_sl (bw_sl ν2 0 5 (lI ((g_lik (st k) c : Nat) : Int) / lN (Nat.gcd ((g_lik (st k) c : Nat) : Int).natAbs (g_SUM (st k))))) 0 6 (lN (g_SUM (st k)) / lN (Nat.gcd ((g_lik (st k) c : Nat) : Int).natAbs (g_SUM (st k))))).1 0 4 = nI (gN (st k)) from i2
          have hν1 := show ∀ x, x < gN (st k) → (bw_sl (bw_sl ν2 0 5 (lI ((g_lik (st k) c : Nat) : Int) / lN (Nat.gcd ((g_lik (st k) c : Nat) : Int).natAbs (g_SUM (st k))))) 0 6 (lN (g_SUM (st k)) / lN (Nat.gcd ((g_lik (st k) c : Nat) : Int).natAbs (g_SUM (st k))))).1 1 x = nI (c x) from i3
          generalize bw_sl (bw_sl ν2 0 5 (lI ((g_lik (st k) c : Nat) : Int) / lN (Nat.gcd ((g_lik (st k) c : Nat) : Int).natAbs (g_SUM (st k))))) 0 6 (lN (g_SUM (st k)) / lN (Nat.gcd ((g_lik (st k) c : Nat) : Int).natAbs (g_SUM (st k)))) = ν3 at hcl hν3 hν5 hν6 hν04 hν1
          have hR3 : bwR' (st k) ν3 := fr_r hR (fun i hi h0 => hν3 _ (by omega) (by omega)) (by rw [hν3 30 (by omega) (by omega)]) (by rw [hν3 30 (by omega) (by omega)])
          obtain ⟨π, p1, p2, p3, p4⟩ := sM_like (d + 36) hS hs (k := q) (by omega) hR3
          obtain ⟨c', r1, r2, r3, r4⟩ := p2 q hlen
          rw [hc3] at r1
          have hlik : g_lik (st k) c = g_lik (st k) c' := congrArg Prod.fst r1
          have hnum : g_num (gN (st k)) c = g_num (gN (st k)) c' := congrArg Prod.snd r1
          have hcc := num_inj (gN (st k)) c c' hc4 (fun x hx => by have := r2 x hx; have := ok_v4 hS hx; omega) hnum
          have hcp := bp_copyQ (fun i μ => eX4_likeliest (d + 39) 99 [some (.inr (.inr 30)), some (.inl (nI q)), some (.inl (nI ((g_all (st k)).foldl (g_rs (st k) (q + 1)) []).length)), some (.inl 0), some (.inl (nI i))] [] μ) (fun μ => μ.1 30 1 = nI (gN (st k))) 44 (12 * q) 42 0 (gN (st k)) (Or.inl (by omega)) (fun μ j x h => by rw [bq_sin _ _ (by omega)]; exact h) (fun i τ hi hqq => by
            rw [qX4_likeliest_99, hqq, if_neg (nI_ge (by omega) (by omega)), bq_12, if_pos ((bq_ii (by omega)).2 (by omega)), if_pos ((bq_ii (by omega)).2 (by omega)), nI_clamp (by omega), nI_clamp (by omega), nI_1, Nat.zero_add]) 0 (by omega) (bw_si π 30 18 (nI (gN (st k)))) (by rw [bq_sin _ _ (by omega)]; exact (fRE_r p4 hR3).2.1)
          obtain ⟨ρ, s1, s0, s2, s3, s4⟩ := hcp
          have hRρ : bwR' (st k) ρ := fr_r (fRE_r p4 hR3) (fun i hi h0 => funext (fun j => by rw [s3 _ _ (by omega), bq_sin _ _ (by omega)])) (by rw [s3 _ _ (by omega), bq_sin _ _ (by omega)]) (by rw [s3 _ _ (by omega), bq_sin _ _ (by omega)])
          obtain ⟨τ, υ, k1, k2, k3⟩ := sM_tells (d + 36) hS hs (show ¬ g_SUM (st k) = 0 by omega) (fG_refl ρ) hRρ (A := ((g_lik (st k) c : Nat) : Int)) (by omega) (by omega)
          have hρ : ∀ cc, cc ≠ 41 → cc ≠ 44 → cc ≠ 42 → cc ≠ 30 → ρ.1 cc = ν3.1 cc := fun cc h1 h2 h3 h4 => by
            rw [← p4.1 cc h1 h2]
            funext j
            rw [s3 _ _ (by omega), bq_sin _ _ (by omega)]
          have hρ30 : ∀ j, j ≠ 18 → ρ.1 30 j = ν3.1 30 j := fun j hj => by
            rw [s3 _ _ (by omega), bq_sin _ _ (by omega), p4.1 30 (by omega) (by omega)]
          have hυ : ∀ cc, cc ≠ 41 → cc ≠ 44 → cc ≠ 42 → cc ≠ 30 → cc < 40 ∨ 47 < cc → υ.1 cc = ν3.1 cc := fun cc h1 h2 h3 h4 h5 => (k3.1 cc h4 (by omega)).trans (hρ cc h1 h2 h3 h4)
          have hυ30 : ∀ j, j ≠ 18 → j ≠ 24 → υ.1 30 j = ν3.1 30 j := fun j h1 h2 => (k3.2.1 j h2).trans (hρ30 j h1)
          refine ⟨1, ν3, υ, hcl, ?_, st, ac, k, f, gN (st k), ?_⟩
          · show bw_call (d + 36 + 4) 121 _ ν3 = _
            rw [p1, qX4_likeliest_30, if_pos rfl, if_pos (nI_lt hlen (by omega)), rr_n (fRE_r p4 hR3), show (0 : Int32) = nI 0 from rfl]
            refine Eq.trans s1 ?_
            show eX4_likeliest (d + 39) 99 _ [] ρ = _
            rw [qX4_likeliest_99, s0, if_pos (nI_le (by omega) (by omega)), if_pos ((bq_ii (by omega)).2 hq), nI_clamp (by omega), k1, bq_L, s2, bq_si2, r3, ← hlik, lI_N (g_lik _ _), k2, bq_I]
          · obtain ⟨h1, h2, h3, h4, h5, h6, h7, h8, h9⟩ := h
            refine ⟨fr_h h1 (fun cc a1 a2 => ?_), fr_c h2 (fun i hi => ?_), fr_r h3 (fun i hi h0 => ?_) ?_ ?_, fr_l h4 ?_ (fun cc a1 a2 => ?_), ?_, hn, ?_, ?_, fun x hx => ?_⟩
            · rw [hυ cc (by omega) (by omega) (by omega) (by omega) (by omega), hν3 cc (by omega) (by omega)]
            · rw [hυ _ (by omega) (by omega) (by omega) (by omega) (by omega), hν3 _ (by omega) (by omega)]
            · rw [hυ _ (by omega) (by omega) (by omega) (by omega) (by omega), hν3 _ (by omega) (by omega)]
            · rw [hυ30 1 (by omega) (by omega), hν3 30 (by omega) (by omega)]
            · rw [hυ30 10 (by omega) (by omega), hν3 30 (by omega) (by omega)]
            · rw [hυ30 25 (by omega) (by omega), hν3 30 (by omega) (by omega)]
            · rw [hυ cc (by omega) (by omega) (by omega) (by omega) (by omega), hν3 cc (by omega) (by omega)]
            · have hk3 := k3.2.2.2
              dsimp only at hk3
              have h0 : υ.2 0 = ν3.2 0 := by
                rw [k3.2.2.1 0 (by omega) (by omega), s2, bq_si2]
                funext j
                exact p4.2 0 j (by omega) (by omega)
              rw [hk3.1, hk3.2, h0, hν5, hν6]
              exact ⟨rfl, rfl⟩
            · rw [hυ 0 (by omega) (by omega) (by omega) (by omega) (by omega)]; exact hν04
            · rw [k3.2.1 18 (by omega), s3 _ _ (by omega), bq_sie]
            · rw [hυ 1 (by omega) (by omega) (by omega) (by omega) (by omega), hν1 x hx, k3.1 42 (by omega) (by omega)]
              have h44 := s4 x (by omega) hx
              rw [Nat.zero_add] at h44
              rw [h44, bq_sin _ _ (by omega), r4 x hx, hcc x hx]
      · rw [if_neg (nI_nlt (by omega) (by omega))] at hcl
        have hRν := cq_r (cq_S e4) hR
        obtain ⟨π, p1, p2, p3, p4⟩ := sM_like (d + 36) hS hs (k := q) (by omega) hRν
        refine J_q h (r := 0) (t := none) hcl (cq_S e4) ?_ (mq_RE p4)
        show bw_call (d + 36 + 4) 121 _ ν = _
        rw [p1, qX4_likeliest_30, if_pos rfl, if_neg (nI_nlt (by omega) (by omega))]
    · refine J_same (inv_same h) (r := -4) ?_ ?_
      · rw [qX3_likeliest, if_neg (nI_pos (by omega)), if_pos (show nI q < (10 : Int32) from nI_lt (b := 10) hq (by omega)), sW_nsound _ (Or.inl rfl) hS hC hs, bq_I, if_pos rfl]
      · rw [qX4_likeliest, if_neg (nI_pos (by omega)), if_pos (show nI q ≤ (9 : Int32) from nI_le (b := 9) (by omega) (by omega)), sM_rough _ hS hR hs, bq_I, if_neg bq_ne10]
  · refine J_same (inv_same h) (r := -1) ?_ ?_
    · rw [qX3_likeliest]
      rcases pk_ix x (n := 10) (by omega) with h' | h' | h'
      · rw [if_pos h']
      · rw [if_neg (show ¬ x < (10 : Int32) from fun hh => by
          rw [Int32.lt_iff_toInt_lt] at hh
          rw [Int32.le_iff_toInt_le] at h'
          have : (nI 10).toInt = (10 : Int32).toInt := rfl
          omega)]
        split <;> rfl
      · exact absurd h' hx
    · rw [qX4_likeliest]
      rcases pk_ix x (n := 10) (by omega) with h' | h' | h'
      · rw [if_pos h']
      · rw [if_neg (show ¬ x ≤ (9 : Int32) from fun hh => by
          rw [Int32.le_iff_toInt_le] at hh h'
          have h10 : (nI 10).toInt = 10 := rfl
          have h9 : (9 : Int32).toInt = 9 := rfl
          omega)]
        split <;> rfl
      · exact absurd h' hx
