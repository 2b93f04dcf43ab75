/-! THE WORLD: the cells of the heap that a memory says, and what the steps need of them. -/
def bw_z : Nat → Int32 := fun _ => 0
noncomputable def bw_call : Nat → Nat → List bwV → bwM → Option bwR
  | 0, _, _, _ => none
  | d + 1, m, as, μ => match bw_nth bw_sg m with
    | some (_, _, _, mx, rt, _, _) => (match bw_nth bw_tabs m with
      | some t => bif Nat.ble (bw_wd as) mx then bw_ex (bw_call d) 0 bw_z rt t 0 (bw_loc as mx) [] μ else none
      | none => none)
    | none => none
def bw_cv (ad : Nat → Nat) (v : bwV) : Value := match v with
  | .inl x => .int x
  | .inr (.inl y) => .long y
  | .inr (.inr o) => .ref (ad o)
def bw_fd (ad : Nat → Nat) (o : Nat) (f : Nat → Int32) (g : Nat → Int64) : List Value := (List.range (bw_nf (bw_cls o))).map fun a => match bw_ft (bw_cls o) a with
  | 0 => .int (f a)
  | 1 => .long (g a)
  | _ => .ref (ad (bw_rf o a))
def bw_cell (ad : Nat → Nat) (cI cJ cZ : ClassId) (o : Nat) (f : Nat → Int32) (g : Nat → Int64) : va_E := match bw_kd o with
  | 0 => .inr (bw_cls o, bw_fd ad o f g)
  | 1 => .inl (cI, bw_len o, .inl f)
  | 2 => .inl (cJ, bw_len o, .inr (.inl g))
  | _ => .inl (cZ, bw_len o, .inl f)
def bw_cells (ad : Nat → Nat) (cI cJ cZ : ClassId) (μ : bwM) : va_W := (List.range 53).map fun o => (ad o, bw_cell ad cI cJ cZ o (μ.1 o) (μ.2 o))
def bw_tys (cI cJ cZ : ClassId) : List (ClassId × FieldType) := [(cI, .int), (cJ, .long), (cZ, .boolean)]
def bw_lv (ad : Nat → Nat) (i : Nat) (ls : List (Option bwV)) : List (Nat × Value) := match ls with
  | [] => []
  | some v :: r => (i, bw_cv ad v) :: bw_lv ad (i + 1) r
  | none :: r => bw_lv ad (i + 1) r
theorem bw_lv_mem {ad : Nat → Nat} {q : Nat × Value} : ∀ (ls : List (Option bwV)) (i : Nat), q ∈ bw_lv ad i ls ↔ ∃ (j : Nat) (v : bwV), bw_get ls j = some (some v) ∧ q = (i + j, bw_cv ad v) := by
  intro ls
  induction ls with
  | nil => intro i; simp [bw_lv, bw_get]
  | cons a r ih =>
    intro i
    constructor
    · intro h
      cases a with
      | none =>
        obtain ⟨j, v, h1, h2⟩ := (ih (i + 1)).mp h
        exact ⟨j + 1, v, h1, by rw [h2, Nat.add_assoc, Nat.add_comm 1 j]⟩
      | some w =>
        rcases List.mem_cons.mp h with h | h
        · exact ⟨0, w, rfl, h⟩
        · obtain ⟨j, v, h1, h2⟩ := (ih (i + 1)).mp h
          exact ⟨j + 1, v, h1, by rw [h2, Nat.add_assoc, Nat.add_comm 1 j]⟩
    · rintro ⟨j, v, h1, h2⟩
      cases j with
      | zero =>
        cases a with
        | none => cases h1
        | some w =>
          cases h1
          exact List.mem_cons.mpr (Or.inl h2)
      | succ j =>
        have h3 := (ih (i + 1)).mpr ⟨j, v, h1, by rw [h2, Nat.add_assoc, Nat.add_comm 1 j]⟩
        cases a with
        | none => exact h3
        | some w => exact List.mem_cons.mpr (Or.inr h3)
theorem bw_get_set {ls : List (Option bwV)} {i j : Nat} {v x : Option bwV} (h : bw_get (bw_set ls i v) j = some x) : (j = i ∧ x = v) ∨ (j ≠ i ∧ bw_get ls j = some x) := by
  induction ls generalizing i j with
  | nil => cases h
  | cons a r ih =>
    cases i with
    | zero =>
      cases j with
      | zero => cases h; exact Or.inl ⟨rfl, rfl⟩
      | succ j => exact Or.inr ⟨by omega, h⟩
    | succ i =>
      cases j with
      | zero => exact Or.inr ⟨by omega, h⟩
      | succ j =>
        rcases ih h with ⟨h1, h2⟩ | ⟨h1, h2⟩
        · exact Or.inl ⟨by omega, h2⟩
        · exact Or.inr ⟨by omega, h2⟩
theorem bw_cv_cat {ad : Nat → Nat} (v : bwV) : ((bw_cv ad v).category == 2) = bw_isL v := by
  rcases v with x | x | x <;> rfl
theorem bw_get_clr {ls : List (Option bwV)} {i j : Nat} {v : bwV} (h : bw_get (bw_clr ls i) j = some (some v)) : bw_get ls j = some (some v) ∧ ¬ (j + 1 = i ∧ bw_isL v = true) := by
  cases i with
  | zero => exact ⟨h, by omega⟩
  | succ i =>
    unfold bw_clr at h
    dsimp only at h
    split at h
    · rename_i y hy
      rcases bw_get_set h with ⟨h1, h2⟩ | ⟨h1, h2⟩
      · cases h2
      · exact ⟨h2, by omega⟩
    · rename_i hn
      refine ⟨h, ?_⟩
      rintro ⟨h1, h2⟩
      have h3 : j = i := by omega
      subst h3
      rcases v with x | x | x
      · cases h2
      · exact hn x h
      · cases h2
theorem bw_lv_put {ad : Nat → Nat} {ls : List (Option bwV)} {i nL : Nat} {v : bwV} {lsA : Array Slot} (h : lv_has lsA nL ((i, bw_cv ad v) :: (bw_lv ad 0 ls).filter (fun q => !(q.1 == i) && !(q.1 + 1 == i && q.2.category == 2)))) : lv_has lsA nL (bw_lv ad 0 (bw_put ls i v)) := by
  refine ⟨h.1, h.2.1, fun q hq => h.2.2 q ?_⟩
  obtain ⟨j, w, h1, rfl⟩ := (bw_lv_mem _ _).mp hq
  rw [Nat.zero_add]
  rcases bw_get_set h1 with ⟨h2, h3⟩ | ⟨h2, h3⟩
  · cases h3; subst h2; exact List.mem_cons_self
  · obtain ⟨h4, h5⟩ := bw_get_clr h3
    refine List.mem_cons.mpr (Or.inr (List.mem_filter.mpr ⟨(bw_lv_mem _ _).mpr ⟨j, w, h4, by rw [Nat.zero_add]⟩, ?_⟩))
    dsimp only
    rw [bw_cv_cat]
    have e1 : (j == i) = false := by simp [h2]
    rw [e1]
    cases hL : bw_isL w with
    | false => simp
    | true =>
      have e2 : (j + 1 == i) = false := by simp; intro h6; exact h5 ⟨h6, hL⟩
      rw [e2]; rfl
theorem bw_lv_putL {ad : Nat → Nat} {ls : List (Option bwV)} {i nL : Nat} {v : Int64} {lsA : Array Slot} (h : lv_has lsA nL ((i, Value.long v) :: (bw_lv ad 0 ls).filter (fun q => !(q.1 == i) && (!(q.1 == i + 1) && !(q.1 + 1 == i && q.2.category == 2))))) : lv_has lsA nL (bw_lv ad 0 (bw_putL ls i v)) := by
  refine ⟨h.1, h.2.1, fun q hq => h.2.2 q ?_⟩
  obtain ⟨j, w, h1, rfl⟩ := (bw_lv_mem _ _).mp hq
  rw [Nat.zero_add]
  rcases bw_get_set h1 with ⟨h2, h3⟩ | ⟨h0, h1⟩
  · cases h3
  rcases bw_get_set h1 with ⟨h2, h3⟩ | ⟨h2, h3⟩
  · cases h3; subst h2; exact List.mem_cons_self
  · obtain ⟨h4, h5⟩ := bw_get_clr h3
    refine List.mem_cons.mpr (Or.inr (List.mem_filter.mpr ⟨(bw_lv_mem _ _).mpr ⟨j, w, h4, by rw [Nat.zero_add]⟩, ?_⟩))
    dsimp only
    rw [bw_cv_cat]
    have e1 : (j == i) = false := by simp [h2]
    have e0 : (j == i + 1) = false := by simp [h0]
    rw [e1, e0]
    cases hL : bw_isL w with
    | false => simp
    | true =>
      have e2 : (j + 1 == i) = false := by simp; intro h6; exact h5 ⟨h6, hL⟩
      rw [e2]; rfl
theorem bw_lv_forget {ad : Nat → Nat} {nL : Nat} {lsA : Array Slot} : ∀ (ks : List Nat) (ls : List (Option bwV)), lv_has lsA nL (bw_lv ad 0 ls) → lv_has lsA nL (bw_lv ad 0 (bw_forget ks ls)) := by
  intro ks
  induction ks with
  | nil => intro ls h; exact h
  | cons k r ih =>
    intro ls h
    refine ih _ ⟨h.1, h.2.1, fun q hq => h.2.2 q ?_⟩
    obtain ⟨j, w, h1, rfl⟩ := (bw_lv_mem _ _).mp hq
    rcases bw_get_set h1 with ⟨h2, h3⟩ | ⟨h2, h3⟩
    · cases h3
    · exact (bw_lv_mem _ _).mpr ⟨j, w, h3, rfl⟩
theorem bw_lv_at {ad : Nat → Nat} {nL : Nat} {lsA : Array Slot} {ls : List (Option bwV)} {i : Nat} {v : bwV} (h : lv_has lsA nL (bw_lv ad 0 ls)) (hg : bw_get ls i = some (some v)) : lsA[i]? = some (.val (bw_cv ad v)) :=
  h.2.2 (i, bw_cv ad v) ((bw_lv_mem _ _).mpr ⟨i, v, hg, by rw [Nat.zero_add]⟩)
theorem bw_wd_cat (ad : Nat → Nat) : ∀ st : List bwV, ((st.map (bw_cv ad)).map fun v => v.category).sum = bw_wd st := by
  intro st
  induction st with
  | nil => rfl
  | cons v r ih =>
    simp only [List.map_cons, List.sum_cons, ih, bw_wd]
    rcases v with x | x | x <;> rfl
theorem bw_wd_sl (ad : Nat → Nat) : ∀ st : List bwV, (lg_sl (st.map (bw_cv ad))).length = bw_wd st := by
  intro st
  induction st with
  | nil => rfl
  | cons v r ih =>
    unfold lg_sl at ih ⊢
    simp only [List.map_cons, List.flatMap_cons, List.length_append, ih, bw_wd]
    rcases v with x | x | x <;> rfl
theorem bw_loc_args {ad : Nat → Nat} : ∀ (n : Nat) (as : List bwV) (i j : Nat) (v : bwV), bw_get (bw_loc as n) j = some (some v) → (i + j, bw_cv ad v) ∈ lv_args i (as.map (bw_cv ad)) := by
  intro n
  induction n using Nat.strongRecOn with
  | _ n ih =>
    intro as i j v h
    cases n with
    | zero => unfold bw_loc at h; cases h
    | succ n =>
      cases as with
      | nil =>
        unfold bw_loc at h
        dsimp only at h
        cases j with
        | zero => cases h
        | succ j =>
          have := ih n (Nat.lt_succ_self n) [] (i + 1) j v h
          simp [lv_args] at this
      | cons a r =>
        rcases a with x | x | x
        · unfold bw_loc at h
          dsimp only at h
          cases j with
          | zero => cases h; exact List.mem_cons_self
          | succ j =>
            have := ih n (Nat.lt_succ_self n) r (i + 1) j v h
            rw [show i + (j + 1) = i + 1 + j from by omega]
            exact List.mem_cons.mpr (Or.inr this)
        · unfold bw_loc at h
          dsimp only at h
          cases n with
          | zero =>
            cases j with
            | zero => cases h; exact List.mem_cons_self
            | succ j => cases h
          | succ n =>
            dsimp only at h
            cases j with
            | zero => cases h; exact List.mem_cons_self
            | succ j =>
              cases j with
              | zero => cases h
              | succ j =>
                have := ih n (by omega) r (i + 2) j v h
                rw [show i + (j + 1 + 1) = i + 2 + j from by omega]
                exact List.mem_cons.mpr (Or.inr this)
        · unfold bw_loc at h
          dsimp only at h
          cases j with
          | zero => cases h; exact List.mem_cons_self
          | succ j =>
            have := ih n (Nat.lt_succ_self n) r (i + 1) j v h
            rw [show i + (j + 1) = i + 1 + j from by omega]
            exact List.mem_cons.mpr (Or.inr this)
-- cells
theorem bw_cls_ob {o b : Nat} (h : bw_cls o = b) (hb : b < 5) : o < 53 ∧ bw_kd o = 0 := by
  unfold bw_cls at h
  split at h <;> first | omega | exact ⟨by decide, rfl⟩
theorem bw_cells_at {ad : Nat → Nat} {cI cJ cZ : ClassId} {μ : bwM} {o : Nat} (h : o < 53) : (bw_cells ad cI cJ cZ μ)[o]? = some (ad o, bw_cell ad cI cJ cZ o (μ.1 o) (μ.2 o)) := by
  simp [bw_cells, h]
theorem bw_cells_set {ad : Nat → Nat} {cI cJ cZ : ClassId} {μ μ' : bwM} {o : Nat} {X : va_E} (hX : bw_cell ad cI cJ cZ o (μ'.1 o) (μ'.2 o) = X) (h1 : ∀ o', o' ≠ o → μ'.1 o' = μ.1 o') (h2 : ∀ o', o' ≠ o → μ'.2 o' = μ.2 o') : (bw_cells ad cI cJ cZ μ).set o (ad o, X) = bw_cells ad cI cJ cZ μ' := by
  apply List.ext_getElem?
  intro i
  rw [List.getElem?_set]
  by_cases hi : i < 53
  · by_cases e : o = i
    · subst e
      rw [if_pos rfl, bw_cells_at hi, hX]
      simp [bw_cells, hi]
    · rw [if_neg e, bw_cells_at hi, bw_cells_at hi, h1 i (fun q => e q.symm), h2 i (fun q => e q.symm)]
  · have e1 : (bw_cells ad cI cJ cZ μ').length ≤ i := by simp [bw_cells]; omega
    have e2 : (bw_cells ad cI cJ cZ μ).length ≤ i := by simp [bw_cells]; omega
    rw [List.getElem?_eq_none e1]
    by_cases e : o = i
    · subst e
      rw [if_pos rfl, if_neg (by omega)]
    · rw [if_neg e, List.getElem?_eq_none e2]
theorem bw_si_ne {μ : bwM} {o j : Nat} {x : Int32} : ∀ o', o' ≠ o → (bw_si μ o j x).1 o' = μ.1 o' := by
  intro o' h; funext k; simp [bw_si, h]
theorem bw_si_eq {μ : bwM} {o j : Nat} {x : Int32} : (bw_si μ o j x).1 o = upd (μ.1 o) j x := by
  funext k; simp [bw_si, upd]
theorem bw_sl_ne {μ : bwM} {o j : Nat} {x : Int64} : ∀ o', o' ≠ o → (bw_sl μ o j x).2 o' = μ.2 o' := by
  intro o' h; funext k; simp [bw_sl, h]
theorem bw_sl_eq {μ : bwM} {o j : Nat} {x : Int64} : (bw_sl μ o j x).2 o = vp_updL (μ.2 o) j x := by
  funext k; simp [bw_sl, vp_updL]
theorem bw_in_vp {i : Int32} {n : Nat} (h : bw_in i n) : vp_in i n := by
  unfold vp_in
  rintro (h1 | h1)
  · have := h.1
    rw [Int32.lt_iff_toInt_lt] at h1
    rw [Int32.le_iff_toInt_le] at this
    omega
  · have := h.2
    omega
theorem bw_cls_ws : ∀ (b : Nat) (r : vw_C), vwCl[b]? = some r → ∀ w ∈ u_ws r.1 r.2.1 r.2.2, w ∈ lw_tbl := by
  intro b r h
  match b, h with
  | 0, h => cases h; exact inX0
  | 1, h => cases h; exact inX1
  | 2, h => cases h; exact inX2
  | 3, h => cases h; exact inX3
  | 4, h => cases h; exact inX4
  | b + 5, h => simp [vwCl] at h
theorem bw_cls_nf : ∀ (b : Nat) (r : vw_C), vwCl[b]? = some r → r.2.2 = bw_nf b ∧ b < 5 := by
  intro b r h
  match b, h with
  | 0, h => cases h; exact ⟨rfl, by decide⟩
  | 1, h => cases h; exact ⟨rfl, by decide⟩
  | 2, h => cases h; exact ⟨rfl, by decide⟩
  | 3, h => cases h; exact ⟨rfl, by decide⟩
  | 4, h => cases h; exact ⟨rfl, by decide⟩
  | b + 5, h => simp [vwCl] at h
theorem bw_ftX0 : ∀ k, k < 4 → (bw_ft 0 k = 0 → (TX0 k).2.2.2 = false ∧ tyX0 k = .int) ∧ (bw_ft 0 k = 1 → (TX0 k).2.2.2 = false ∧ tyX0 k = .long) := by decide +kernel
theorem bw_ftX1 : ∀ k, k < 11 → (bw_ft 1 k = 0 → (TX1 k).2.2.2 = false ∧ tyX1 k = .int) ∧ (bw_ft 1 k = 1 → (TX1 k).2.2.2 = false ∧ tyX1 k = .long) := by decide +kernel
theorem bw_ftX2 : ∀ k, k < 11 → (bw_ft 2 k = 0 → (TX2 k).2.2.2 = false ∧ tyX2 k = .int) ∧ (bw_ft 2 k = 1 → (TX2 k).2.2.2 = false ∧ tyX2 k = .long) := by decide +kernel
theorem bw_ftX3 : ∀ k, k < 7 → (bw_ft 3 k = 0 → (TX3 k).2.2.2 = false ∧ tyX3 k = .int) ∧ (bw_ft 3 k = 1 → (TX3 k).2.2.2 = false ∧ tyX3 k = .long) := by decide +kernel
theorem bw_ftX4 : ∀ k, k < 31 → (bw_ft 4 k = 0 → (TX4 k).2.2.2 = false ∧ tyX4 k = .int) ∧ (bw_ft 4 k = 1 → (TX4 k).2.2.2 = false ∧ tyX4 k = .long) := by decide +kernel
theorem bw_cls_ty : ∀ (b : Nat) (r : vw_C), vwCl[b]? = some r → ∃ ty0 : Nat → FieldType, (∀ k, k < r.2.2 → parseFieldDescriptor (r.2.1 k).2.2.1 = some (ty0 k)) ∧ (∀ a, a < r.2.2 → ∀ b, b < r.2.2 → a ≠ b → (r.2.1 a).2.1 ≠ (r.2.1 b).2.1) ∧ ∀ k, k < r.2.2 → (bw_ft b k = 0 → (r.2.1 k).2.2.2 = false ∧ ty0 k = .int) ∧ (bw_ft b k = 1 → (r.2.1 k).2.2.2 = false ∧ ty0 k = .long) := by
  intro b r h
  match b, h with
  | 0, h => cases h; exact ⟨tyX0, tyX0_ok, nmX0, bw_ftX0⟩
  | 1, h => cases h; exact ⟨tyX1, tyX1_ok, nmX1, bw_ftX1⟩
  | 2, h => cases h; exact ⟨tyX2, tyX2_ok, nmX2, bw_ftX2⟩
  | 3, h => cases h; exact ⟨tyX3, tyX3_ok, nmX3, bw_ftX3⟩
  | 4, h => cases h; exact ⟨tyX4, tyX4_ok, nmX4, bw_ftX4⟩
  | b + 5, h => simp [vwCl] at h
theorem bw_beq {a b : Nat} (h : Nat.beq a b = true) : a = b := Nat.eq_of_beq_eq_true h
theorem bw_fl_use {own i a b : Nat} (h : (bw_fl.any fun q => Nat.beq q.1 own && Nat.beq q.2.1 i && Nat.beq q.2.2.1 b && Nat.beq q.2.2.2.1 a) = true) : ∃ r : vw_C, vwCl[b]? = some r ∧ a < r.2.2 ∧ Cond.fieldLink (bw_own own) i (r.2.1 a).1 (r.2.1 a).2.1 (r.2.1 a).2.2.1 ∈ lw_tbl := by
  obtain ⟨q, hq, h⟩ := List.any_eq_true.mp h
  simp only [Bool.and_eq_true] at h
  obtain ⟨⟨⟨h1, h2⟩, h3⟩, h4⟩ := h
  have h5 := List.all_eq_true.mp bw_fl_tbl q hq
  rw [← bw_beq h1, ← bw_beq h2, ← bw_beq h3, ← bw_beq h4]
  cases hr : vwCl[q.2.2.1]? with
  | none => rw [hr] at h5; cases h5
  | some r =>
    rw [hr] at h5
    simp only [Bool.and_eq_true, decide_eq_true_eq] at h5
    exact ⟨r, rfl, Nat.le_of_ble_eq_true h5.1, List.mem_of_getElem? h5.2⟩
theorem bw_ml_use {own i a : Nat} {P : Nat → Bool} (h : (bw_ml.any fun q => Nat.beq q.1 own && Nat.beq q.2.1 i && Nat.beq q.2.2.1 a && P q.2.2.2.1) = true) : ∃ (g : bwG) (n : Nat), bw_nth bw_sg a = some g ∧ P n = true ∧ (n = 0 → Cond.methodLink (bw_own own) i g.2.1 ∈ lw_tbl) ∧ (n ≠ 0 → Cond.methodLinkNest (bw_own own) i g.2.1 "BeliefWeb" ∈ lw_tbl) := by
  obtain ⟨q, hq, h⟩ := List.any_eq_true.mp h
  simp only [Bool.and_eq_true] at h
  obtain ⟨⟨⟨h1, h2⟩, h3⟩, h4⟩ := h
  have h5 := List.all_eq_true.mp bw_ml_tbl q hq
  rw [← bw_beq h1, ← bw_beq h2, ← bw_beq h3]
  cases hr : bw_nth bw_sg q.2.2.1 with
  | none => rw [hr] at h5; cases h5
  | some g =>
    rw [hr] at h5
    dsimp only at h5
    have h6 := List.mem_of_getElem? (of_decide_eq_true h5)
    refine ⟨g, q.2.2.2.1, rfl, h4, fun e => ?_, fun e => ?_⟩
    · rw [e] at h6; exact h6
    · cases hn : q.2.2.2.1 with
      | zero => exact absurd hn e
      | succ n => rw [hn] at h6; exact h6
theorem bw_nth_mem {α : Type} : ∀ (l : List α) (n : Nat) (a : α), bw_nth l n = some a → a ∈ l := by
  intro l
  induction l with
  | nil => intro n a h; cases h
  | cons b r ih =>
    intro n a h
    cases n with
    | zero => cases h; exact List.mem_cons_self
    | succ n => exact List.mem_cons.mpr (Or.inr (ih n a h))
theorem bw_okGs_use : ∀ (gs : List bwG) (ps : List (Nat × Nat × Nat × Nat)) (n : Nat) (g : bwG), bw_okGs gs ps = true → bw_nth gs n = some g → ∃ p, bw_okG g p = true := by
  intro gs
  induction gs with
  | nil => intro ps n g h1 h2; cases h2
  | cons a r ih =>
    intro ps n g h1 h2
    cases ps with
    | nil => cases h1
    | cons p ps =>
      simp only [bw_okGs, Bool.and_eq_true] at h1
      cases n with
      | zero => cases h2; exact ⟨p, h1.1⟩
      | succ n => exact ih ps n g h1.2 h2
theorem bw_okA_use : ∀ (gs : List bwG) (ts : List (List bwE)) (n : Nat) (g : bwG) (t : List bwE), bw_okA gs ts → bw_nth gs n = some g → bw_nth ts n = some t → bw_okT g.1 g.2.2.1 g.2.2.2.1 t = true := by
  intro gs
  induction gs with
  | nil => intro ps n g t h1 h2; cases h2
  | cons a r ih =>
    intro ps n g t h1 h2 h3
    cases ps with
    | nil => cases h1
    | cons p ps =>
      cases n with
      | zero => cases h2; cases h3; exact h1.1
      | succ n => exact ih ps n g t h1.2 h2 h3
theorem bw_cw_mem {m : Nat} {g : bwG} (h : bw_nth bw_sg m = some g) : bw_cw g ∈ lw_tbl := bw_cw_in _ (List.mem_map.mpr ⟨g, bw_nth_mem _ _ _ h, rfl⟩)
theorem bw_find_use : ∀ (t : List bwE) (pc : Nat) (e : bwE), bw_find t pc = some e → e ∈ t ∧ e.1 = pc := by
  intro t
  induction t with
  | nil => intro pc e h; cases h
  | cons a r ih =>
    intro pc e h
    unfold bw_find at h
    cases hb : Nat.beq a.1 pc with
    | true => rw [hb] at h; cases h; exact ⟨List.mem_cons_self, bw_beq hb⟩
    | false => rw [hb] at h; exact ⟨List.mem_cons.mpr (Or.inr (ih pc e h).1), (ih pc e h).2⟩
