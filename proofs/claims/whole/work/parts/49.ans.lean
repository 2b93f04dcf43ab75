/-! PURE: the numbers behind the answers. -/
def g_SUM (S : bwS) : Nat := bp_S (g_lik S) (g_all S)
def g_SH (S : bwS) (p q : Option (Nat × Nat)) : Nat := bp_S (fun c => if (g_tk p c && g_tk q c) = true then g_lik S c else 0) (g_all S)
def g_WO (S : bwS) (o : Nat) (p : Option (Nat × Nat)) : Int := bp_SI (fun c => if g_tk p c = true then g_u S o c (gN S) * (g_lik S c : Int) else 0) (g_all S)
theorem bp_S_le {f g : (Nat → Nat) → Nat} {l : List (Nat → Nat)} (h : ∀ c, c ∈ l → f c ≤ g c) : bp_S f l ≤ bp_S g l := by
  induction l with
  | nil => exact Nat.le_refl _
  | cons a t ih =>
    rw [bp_S_cons, bp_S_cons]
    exact Nat.add_le_add (h a List.mem_cons_self) (ih (fun c hc => h c (List.mem_cons_of_mem _ hc)))
theorem g_SH_le (S : bwS) (p q : Option (Nat × Nat)) : g_SH S p q ≤ g_SUM S := bp_S_le (fun c _ => by
  show (if _ then _ else _) ≤ _
  split
  · exact Nat.le_refl _
  · exact Nat.zero_le _)
theorem g_SUM_le {S : bwS} (hS : bwOK S) (hs : g_sound S) : g_SUM S ≤ 531441000000000 := all_le hS hs
theorem met_sum {S : bwS} {ord : List Nat} (ho : g_ord S ord) : bp_S (g_lik S) (g_met S none ord) = g_SUM S := by
  rw [met_S ho (fun a b h => by cases h) (g_lik S) (fun _ h => h)]
  exact bp_S_congr (fun c _ => rfl)
theorem met_sh {S : bwS} {held : Option (Nat × Nat)} {ord : List Nat} (ho : g_ord S ord) (hh : g_hok S held) (y u : Nat) : bp_S (fun c => if c y = u then g_lik S c else 0) (g_met S held ord) = g_SH S held (some (y, u)) := by
  rw [met_S ho hh _ (fun c h => by rw [h]; split <;> rfl)]
  refine bp_S_congr (fun c _ => ?_)
  have : g_tk (some (y, u)) c = (c y == u) := rfl
  rw [this]
  cases g_tk held c with
  | false => rfl
  | true =>
    rw [if_pos rfl, Bool.true_and]
    by_cases h : c y = u
    · rw [if_pos h, if_pos (by simpa using h)]
    · rw [if_neg h, if_neg (by simpa using h)]
theorem g_SH_none (S : bwS) (q : Option (Nat × Nat)) : g_SH S none q = g_SH S q none := by
  refine bp_S_congr (fun c _ => ?_)
  rw [Bool.and_comm]
theorem met_ws {S : bwS} {held : Option (Nat × Nat)} {ord : List Nat} (ho : g_ord S ord) (hh : g_hok S held) (o : Nat) : g_ws S o (g_sh S (g_met S held ord)) (gN S) = g_WO S o held := by
  rw [ws_eq (fun c hc => met_mem ho hh hc), met_SI ho hh _ (fun c h => by rw [h]; exact Int.mul_zero _)]
  rfl
theorem isum_bound (f : Nat → Int) (B : Int) (n : Nat) (h : ∀ x, x < n → -B ≤ f x ∧ f x ≤ B) : -(n * B) ≤ bp_isum f n ∧ bp_isum f n ≤ n * B := by
  induction n with
  | zero => rw [bp_isum]; omega
  | succ n ih =>
    have h1 := ih (fun x hx => h x (by omega))
    have h2 := h n (by omega)
    rw [bp_isum, Int.natCast_add, Int.add_mul]
    omega
theorem g_u_bound {S : bwS} (hS : bwOK S) (o : Nat) (c : Nat → Nat) : -6000 ≤ g_u S o c (gN S) ∧ g_u S o c (gN S) ≤ 6000 := by
  have h := isum_bound (fun x => (gU S o x (c x)).toInt) 500 (gN S) (fun x _ => ⟨ok_u1 hS o x (c x), ok_u2 hS o x (c x)⟩)
  have hn := ok_n hS
  unfold g_u
  omega
theorem bp_SI_bound (f : (Nat → Nat) → Int) (g : (Nat → Nat) → Nat) (l : List (Nat → Nat)) (h : ∀ c, -(6000 * (g c : Int)) ≤ f c ∧ f c ≤ 6000 * (g c : Int)) : -(6000 * (bp_S g l : Int)) ≤ bp_SI f l ∧ bp_SI f l ≤ 6000 * (bp_S g l : Int) := by
  induction l with
  | nil => rw [bp_SI_nil, bp_S_nil]; omega
  | cons a t ih =>
    have := h a
    rw [bp_SI_cons, bp_S_cons, Int.natCast_add, Int.mul_add]
    omega
theorem g_WO_bound {S : bwS} (hS : bwOK S) (o : Nat) (p : Option (Nat × Nat)) : -(6000 * (g_SH S p none : Int)) ≤ g_WO S o p ∧ g_WO S o p ≤ 6000 * (g_SH S p none : Int) := by
  refine bp_SI_bound _ _ _ (fun c => ?_)
  have htk : g_tk none c = true := rfl
  rw [htk, Bool.and_true]
  by_cases h : g_tk p c = true
  · rw [if_pos h, if_pos h]
    have hu := g_u_bound hS o c
    have hL : (0 : Int) ≤ (g_lik S c : Int) := by omega
    have h1 := Int.mul_le_mul_of_nonneg_right hu.1 hL
    have h2 := Int.mul_le_mul_of_nonneg_right hu.2 hL
    omega
  · rw [if_neg h, if_neg h]
    omega
theorem SH_split {S : bwS} {x : Nat} (hx : x < gN S) : bp_sum (fun v => g_SH S (some (x, v)) none) (gV S x) = g_SUM S := by
  have key : ∀ (l : List (Nat → Nat)), (∀ c, c ∈ l → c x < gV S x) → bp_sum (fun v => bp_S (fun c => if (g_tk (some (x, v)) c && g_tk none c) = true then g_lik S c else 0) l) (gV S x) = bp_S (g_lik S) l := by
    intro l
    induction l with
    | nil =>
      intro _
      have : ∀ n, bp_sum (fun _ => 0) n = 0 := by
        intro n
        induction n with
        | zero => rfl
        | succ n ih => show bp_sum (fun _ => 0) n + 0 = 0; rw [ih]
      exact this _
    | cons a t ih =>
      intro h
      rw [bp_S_cons, ← ih (fun c hc => h c (List.mem_cons_of_mem _ hc))]
      have hadd : ∀ (f g : Nat → Nat) n, bp_sum (fun v => f v + g v) n = bp_sum f n + bp_sum g n := by
        intro f g n
        induction n with
        | zero => rfl
        | succ n ih =>
          show bp_sum (fun v => f v + g v) n + (f n + g n) = bp_sum f n + f n + (bp_sum g n + g n)
          rw [ih]; omega
      have hone : ∀ (L a n : Nat), bp_sum (fun v => if a = v then L else 0) n = if a < n then L else 0 := by
        intro L a n
        induction n with
        | zero => rfl
        | succ n ih =>
          show bp_sum (fun v => if a = v then L else 0) n + (if a = n then L else 0) = _
          rw [ih]
          by_cases h1 : a < n
          · rw [if_pos h1, if_neg (show ¬ a = n by omega), if_pos (show a < n + 1 by omega)]; rfl
          · by_cases h2 : a = n
            · rw [if_neg h1, if_pos h2, if_pos (show a < n + 1 by omega), Nat.zero_add]
            · rw [if_neg h1, if_neg h2, if_neg (show ¬ a < n + 1 by omega)]
      have hcongr : ∀ (f g : Nat → Nat) n, (∀ v, f v = g v) → bp_sum f n = bp_sum g n := by
        intro f g n h
        rw [show f = g from funext h]
      rw [hcongr _ (fun v => (if a x = v then g_lik S a else 0) + bp_S (fun c => if (g_tk (some (x, v)) c && g_tk none c) = true then g_lik S c else 0) t) _ (fun v => by
        rw [bp_S_cons]
        congr 1
        have h1 : g_tk (some (x, v)) a = (a x == v) := rfl
        have h2 : g_tk none a = true := rfl
        rw [h1, h2, Bool.and_true]
        by_cases h : a x = v
        · rw [if_pos h, if_pos (by simpa using h)]
        · rw [if_neg h, if_neg (by simpa using h)]), hadd, hone, if_pos (h a List.mem_cons_self)]
  exact key _ (fun c hc => ((g_all_mem S c).1 hc).2 x hx)
/-- the first of the greatest -/
def bp_best (W : Nat → Int64) : Nat → Nat
  | 0 => 0
  | k + 1 => if k = 0 then 0 else if W (bp_best W k) < W k then k else bp_best W k
theorem bp_best_lt (W : Nat → Int64) (k : Nat) (hk : 0 < k) : bp_best W k < k := by
  induction k with
  | zero => omega
  | succ k ih =>
    unfold bp_best
    by_cases h0 : k = 0
    · rw [if_pos h0]; omega
    · have := ih (by omega)
      rw [if_neg h0]
      split <;> omega
def g_W (S : bwS) (p : Option (Nat × Nat)) (o : Nat) : Int64 := lI (g_WO S o p)
def g_B (S : bwS) (p : Option (Nat × Nat)) : Nat := bp_best (g_W S p) (gO S)
def g_G (S : bwS) (p : Option (Nat × Nat)) : Int := g_WO S (g_B S p) p
def g_gain (S : bwS) (x : Nat) : Int := bp_isum (fun v => g_G S (some (x, v))) (gV S x) - g_G S none
theorem g_G_bound {S : bwS} (hS : bwOK S) (p : Option (Nat × Nat)) : -(6000 * (g_SH S p none : Int)) ≤ g_G S p ∧ g_G S p ≤ 6000 * (g_SH S p none : Int) := g_WO_bound hS _ p
theorem g_SH_all (S : bwS) : g_SH S none none = g_SUM S := bp_S_congr (fun _ _ => rfl)
theorem g_gain_bound {S : bwS} (hS : bwOK S) {x : Nat} (hx : x < gN S) : -(12000 * (g_SUM S : Int)) ≤ g_gain S x ∧ g_gain S x ≤ 12000 * (g_SUM S : Int) := by
  have h0 := g_G_bound hS none
  rw [g_SH_all] at h0
  have key : ∀ k, -(6000 * ((bp_sum (fun v => g_SH S (some (x, v)) none) k : Nat) : Int)) ≤ bp_isum (fun v => g_G S (some (x, v))) k ∧ bp_isum (fun v => g_G S (some (x, v))) k ≤ 6000 * ((bp_sum (fun v => g_SH S (some (x, v)) none) k : Nat) : Int) := by
    intro k
    induction k with
    | zero => rw [bp_isum]; show -(6000 * ((0 : Nat) : Int)) ≤ 0 ∧ (0 : Int) ≤ 6000 * ((0 : Nat) : Int); omega
    | succ k ih =>
      have h1 := g_G_bound hS (some (x, k))
      have h2 : bp_sum (fun v => g_SH S (some (x, v)) none) (k + 1) = bp_sum (fun v => g_SH S (some (x, v)) none) k + g_SH S (some (x, k)) none := rfl
      rw [bp_isum, h2, Int.natCast_add]
      omega
  have h1 := key (gV S x)
  rw [SH_split hx] at h1
  unfold g_gain
  omega
