/-! PURE: the first of a ranking do not hang on the order in which entries come. -/
theorem bef_iff (e f : Nat × Nat) : bp_bef e f = true ↔ f.1 < e.1 ∨ (e.1 = f.1 ∧ e.2 < f.2) := by
  unfold bp_bef
  simp
theorem bef_asym {e f : Nat × Nat} (h : bp_bef e f = true) : ¬ bp_bef f e = true := by
  rw [bef_iff] at h ⊢
  omega
theorem bef_trans {e f g : Nat × Nat} (h : bp_bef e f = true) (h' : bp_bef f g = true) : bp_bef e g = true := by
  rw [bef_iff] at h h' ⊢
  omega
theorem bef_total {e f : Nat × Nat} (hn : e.2 ≠ f.2) (h : ¬ bp_bef e f = true) : bp_bef f e = true := by
  rw [bef_iff] at h ⊢
  omega
theorem ins_td {α : Type} (l : List α) (p : Nat) (hp : p ≤ l.length) (e : α) : l.insertIdx p e = l.take p ++ e :: l.drop p := by
  induction l generalizing p with
  | nil =>
    have : p = 0 := by simpa using hp
    subst this
    rfl
  | cons a t ih =>
    cases p with
    | zero => rfl
    | succ p =>
      rw [List.insertIdx_succ_cons, ih p (by simpa using hp)]
      rfl
theorem pl_spec (b : Nat → Bool) (p : Nat) : (∀ j, bp_pl b p ≤ j → j < p → b j = true) ∧ (0 < bp_pl b p → b (bp_pl b p - 1) = false) := by
  induction p with
  | zero => exact ⟨fun j _ h => by omega, fun h => by rw [bp_pl] at h; omega⟩
  | succ p ih =>
    rw [bp_pl]
    by_cases h : b p = true
    · rw [if_pos h]
      refine ⟨fun j h1 h2 => ?_, ih.2⟩
      by_cases hj : j = p
      · rw [hj]; exact h
      · exact ih.1 j h1 (by omega)
    · rw [if_neg h]
      refine ⟨fun j h1 h2 => by omega, fun _ => ?_⟩
      rw [Nat.add_sub_cancel]
      exact Bool.eq_false_iff.2 h
def bp_so (l : List (Nat × Nat)) : Prop := l.Pairwise (fun a b => bp_bef a b = true)
theorem getD_lt {l : List (Nat × Nat)} {j : Nat} (h : j < l.length) : l.getD j (0, 0) = l[j] := by
  rw [List.getD_eq_getElem?_getD, List.getElem?_eq_getElem h]; rfl
theorem in_sorted {l : List (Nat × Nat)} {e : Nat × Nat} (hs : bp_so l) (hd : ∀ f, f ∈ l → f.2 ≠ e.2) : bp_so (bp_in (bp_bef e) e l) ∧ (bp_in (bp_bef e) e l).Perm (e :: l) := by
  have hsp := pl_spec (fun j => bp_bef e (l.getD j (0, 0))) l.length
  have hle := bp_pl_le (fun j => bp_bef e (l.getD j (0, 0))) l.length
  unfold bp_in
  rw [ins_td l _ hle e]
  generalize bp_pl (fun j => bp_bef e (l.getD j (0, 0))) l.length = p at hsp hle ⊢
  have hgt : ∀ f, f ∈ l.drop p → bp_bef e f = true := by
    intro f hf
    obtain ⟨j, hj, rfl⟩ := List.getElem_of_mem hf
    rw [List.length_drop] at hj
    have := hsp.1 (p + j) (by omega) (by omega)
    rw [getD_lt (by omega)] at this
    rw [List.getElem_drop]
    exact this
  have hlt : ∀ f, f ∈ l.take p → bp_bef f e = true := by
    intro f hf
    obtain ⟨j, hj, rfl⟩ := List.getElem_of_mem hf
    rw [List.length_take] at hj
    have hp0 : 0 < p := by omega
    have h1 := hsp.2 hp0
    rw [getD_lt (by omega)] at h1
    have h2 : bp_bef (l[p - 1]'(by omega)) e = true := bef_total (hd _ (List.getElem_mem _)).symm (Bool.eq_false_iff.1 h1)
    rw [List.getElem_take]
    by_cases hjp : j = p - 1
    · subst hjp; exact h2
    · exact bef_trans ((List.pairwise_iff_getElem.1 hs) j (p - 1) (by omega) (by omega) (by omega)) h2
  constructor
  · refine List.pairwise_append.2 ⟨hs.sublist (List.take_sublist p l), List.pairwise_cons.2 ⟨hgt, hs.sublist (List.drop_sublist p l)⟩, fun a ha b hb => ?_⟩
    rcases List.mem_cons.1 hb with h | h
    · rw [h]; exact hlt a ha
    · exact bef_trans (hlt a ha) (hgt b h)
  · refine List.perm_middle.trans ?_
    rw [List.take_append_drop]
/-- R is what ranks first of l, at most w -/
def bp_top (w : Nat) (l R : List (Nat × Nat)) : Prop := ∃ D, l.Perm (R ++ D) ∧ bp_so R ∧ R.length ≤ w ∧ (D ≠ [] → R.length = w) ∧ ∀ r d, r ∈ R → d ∈ D → bp_bef r d = true
theorem top_step {w : Nat} (hw : 0 < w) {l R : List (Nat × Nat)} (h : bp_top w l R) {e : Nat × Nat} (he : ∀ f, f ∈ l → f.2 ≠ e.2) : bp_top w (e :: l) (bp_ins w e R) := by
  obtain ⟨D, h1, h2, h3, h4, h5⟩ := h
  have heR : ∀ f, f ∈ R → f.2 ≠ e.2 := fun f hf => he f (h1.mem_iff.2 (List.mem_append_left _ hf))
  have heD : ∀ f, f ∈ D → f.2 ≠ e.2 := fun f hf => he f (h1.mem_iff.2 (List.mem_append_right _ hf))
  unfold bp_ins
  rw [if_neg (by omega)]
  by_cases hl : R.length < w
  · rw [if_pos hl]
    have hD : D = [] := Classical.byContradiction (fun hn => by have := h4 hn; omega)
    subst hD
    obtain ⟨i1, i2⟩ := in_sorted h2 heR
    refine ⟨[], ?_, i1, ?_, fun h => absurd rfl h, fun r d _ hd => by simp at hd⟩
    · rw [List.append_nil] at h1 ⊢
      exact (h1.cons e).trans i2.symm
    · rw [bp_in_len]; omega
  · rw [if_neg hl]
    have hRw : R.length = w := by omega
    have hRne : R ≠ [] := fun h => by rw [h] at hRw; simp at hRw; omega
    rw [getD_lt (show R.length - 1 < R.length by omega)]
    have hlast : R[R.length - 1]'(by omega) = R.getLast hRne := (List.getLast_eq_getElem hRne).symm
    have hdl : R.dropLast ++ [R.getLast hRne] = R := List.dropLast_concat_getLast hRne
    have hsub : bp_so R.dropLast := h2.sublist (List.dropLast_sublist R)
    have hll : ∀ f, f ∈ R.dropLast → bp_bef f (R.getLast hRne) = true := by
      have := h2
      rw [← hdl] at this
      exact fun f hf => (List.pairwise_append.1 this).2.2 f hf _ (by simp)
    rw [hlast]
    by_cases hb : bp_bef e (R.getLast hRne) = true
    · rw [if_pos hb]
      obtain ⟨i1, i2⟩ := in_sorted hsub (fun f hf => heR f (List.dropLast_subset R hf))
      refine ⟨R.getLast hRne :: D, ?_, i1, ?_, fun _ => ?_, fun r d hr hd => ?_⟩
      · refine (h1.cons e).trans ?_
        refine List.Perm.trans ?_ (i2.symm.append_right _)
        refine List.Perm.cons e ?_
        show (R ++ D).Perm (R.dropLast ++ ([R.getLast hRne] ++ D))
        rw [← List.append_assoc, hdl]
      · rw [bp_in_len, List.length_dropLast]; omega
      · rw [bp_in_len, List.length_dropLast]; omega
      · rcases bp_in_mem hr with h | h
        · rw [h]
          rcases List.mem_cons.1 hd with h' | h'
          · rw [h']; exact hb
          · exact bef_trans hb (h5 _ d (List.getLast_mem hRne) h')
        · rcases List.mem_cons.1 hd with h' | h'
          · rw [h']; exact hll r h
          · exact h5 r d (List.dropLast_subset R h) h'
    · rw [if_neg hb]
      have hle : bp_bef (R.getLast hRne) e = true := bef_total (heR _ (List.getLast_mem hRne)).symm hb
      refine ⟨e :: D, ?_, h2, h3, fun _ => hRw, fun r d hr hd => ?_⟩
      · exact (h1.cons e).trans List.perm_middle.symm
      · rcases List.mem_cons.1 hd with h' | h'
        · rw [h']
          rw [← hdl] at hr
          rcases List.mem_append.1 hr with h'' | h''
          · exact bef_trans (hll r h'') hle
          · rw [List.mem_singleton.1 h'']; exact hle
        · exact h5 r d hr h'
theorem top_fold {w : Nat} (hw : 0 < w) (l p R : List (Nat × Nat)) (h : bp_top w p R) (hd : (l ++ p).Pairwise (fun a b => a.2 ≠ b.2)) : ∃ p', p'.Perm (l ++ p) ∧ bp_top w p' (l.foldl (fun R e => bp_ins w e R) R) := by
  induction l generalizing p R with
  | nil => exact ⟨p, List.Perm.refl _, h⟩
  | cons e t ih =>
    have hd' : (e :: (t ++ p)).Pairwise (fun a b => a.2 ≠ b.2) := hd
    obtain ⟨d1, d2⟩ := List.pairwise_cons.1 hd'
    have hst := top_step hw h (e := e) (fun f hf => (d1 f (List.mem_append_right _ hf)).symm)
    have hd2 : (t ++ e :: p).Pairwise (fun a b => a.2 ≠ b.2) := by
      refine (List.Perm.pairwise_iff (fun {a b} hab => Ne.symm hab) List.perm_middle).2 ?_
      exact List.pairwise_cons.2 ⟨d1, d2⟩
    obtain ⟨p', q1, q2⟩ := ih (e :: p) _ hst hd2
    exact ⟨p', q1.trans List.perm_middle, q2⟩
theorem so_nodup {l : List (Nat × Nat)} (h : bp_so l) : l.Nodup := h.imp (fun hab he => by rw [he] at hab; exact bef_asym hab hab)
theorem top_sub {w : Nat} {l1 l2 R1 R2 : List (Nat × Nat)} (hp : l1.Perm l2) (h1 : bp_top w l1 R1) (h2 : bp_top w l2 R2) : ∀ e, e ∈ R1 → e ∈ R2 := by
  obtain ⟨D1, a1, a2, a3, a4, a5⟩ := h1
  obtain ⟨D2, b1, b2, b3, b4, b5⟩ := h2
  intro e he
  refine Classical.byContradiction (fun hn => ?_)
  have heD2 : e ∈ D2 := by
    have : e ∈ R2 ++ D2 := b1.mem_iff.1 (hp.mem_iff.1 (a1.mem_iff.2 (List.mem_append_left _ he)))
    rcases List.mem_append.1 this with h | h
    · exact absurd h hn
    · exact h
  have hw : R2.length = w := b4 (fun h => by rw [h] at heD2; simp at heD2)
  have : ∃ r, r ∈ R2 ∧ r ∉ R1 := by
    refine Classical.byContradiction (fun hno => ?_)
    have := List.Nodup.length_le_of_subset (List.nodup_cons.2 ⟨hn, so_nodup b2⟩) (l₂ := R1) (fun z hz => by
      rcases List.mem_cons.1 hz with h | h
      · rw [h]; exact he
      · exact Classical.byContradiction (fun hz1 => hno ⟨z, h, hz1⟩))
    rw [List.length_cons] at this
    omega
  obtain ⟨r, hr, hr1⟩ := this
  have hrD1 : r ∈ D1 := by
    have : r ∈ R1 ++ D1 := a1.mem_iff.1 (hp.mem_iff.2 (b1.mem_iff.2 (List.mem_append_left _ hr)))
    rcases List.mem_append.1 this with h | h
    · exact absurd h hr1
    · exact h
  exact bef_asym (a5 e r he hrD1) (b5 r e hr heD2)
theorem top_eq {w : Nat} {l1 l2 R1 R2 : List (Nat × Nat)} (hp : l1.Perm l2) (h1 : bp_top w l1 R1) (h2 : bp_top w l2 R2) : R1 = R2 := by
  have s1 := top_sub hp h1 h2
  have s2 := top_sub hp.symm h2 h1
  obtain ⟨D1, a1, a2, a3, a4, a5⟩ := h1
  obtain ⟨D2, b1, b2, b3, b4, b5⟩ := h2
  exact List.Perm.eq_of_pairwise (le := fun a b => bp_bef a b = true) (fun a b _ _ hab hba => absurd hba (bef_asym hab)) a2 b2 ((List.perm_ext_iff_of_nodup (so_nodup a2) (so_nodup b2)).2 (fun e => ⟨s1 e, s2 e⟩))
/-- the ranking of a list of entries with numbers of their own is the same in every order -/
theorem rank_perm {w : Nat} (hw : 0 < w) {l1 l2 : List (Nat × Nat)} (hp : l1.Perm l2) (hd : l1.Pairwise (fun a b => a.2 ≠ b.2)) : l1.foldl (fun R e => bp_ins w e R) [] = l2.foldl (fun R e => bp_ins w e R) [] := by
  have h0 : bp_top w [] [] := ⟨[], List.Perm.refl _, List.Pairwise.nil, Nat.zero_le _, fun h => absurd rfl h, fun r d hr _ => by simp at hr⟩
  have hd2 : l2.Pairwise (fun a b => a.2 ≠ b.2) := (List.Perm.pairwise_iff (fun {a b} hab => Ne.symm hab) hp).1 hd
  obtain ⟨p1, q1, t1⟩ := top_fold hw l1 [] [] h0 (by rw [List.append_nil]; exact hd)
  obtain ⟨p2, q2, t2⟩ := top_fold hw l2 [] [] h0 (by rw [List.append_nil]; exact hd2)
  rw [List.append_nil] at q1 q2
  exact top_eq (q1.trans (hp.trans q2.symm)) t1 t2
theorem nxt_off (V : Nat → Nat) (k : Nat) (c c' : Nat → Nat) (h : bp_nxt V k c = some c') : ∀ y, k ≤ y → c' y = c y := by
  induction k generalizing c with
  | zero => rw [bp_nxt] at h; cases h
  | succ k ih =>
    intro y hy
    rw [bp_nxt] at h
    split at h
    · rw [ih _ h y (by omega), bp_up_ne _ (by omega)]
    · cases h; rw [bp_up_ne _ (by omega)]
theorem num_congr (n : Nat) (c c' : Nat → Nat) (h : ∀ y, y < n → c y = c' y) : g_num n c = g_num n c' := by
  induction n with
  | zero => rfl
  | succ n ih =>
    show 4 * g_num n c + c n = 4 * g_num n c' + c' n
    rw [ih (fun y hy => h y (by omega)), h n (by omega)]
theorem nxt_num (V : Nat → Nat) (k : Nat) (hV : ∀ y, y < k → V y ≤ 4) (c c' : Nat → Nat) (h : bp_nxt V k c = some c') : g_num k c < g_num k c' := by
  induction k generalizing c with
  | zero => rw [bp_nxt] at h; cases h
  | succ k ih =>
    rw [bp_nxt] at h
    show 4 * g_num k c + c k < 4 * g_num k c' + c' k
    split at h
    · rename_i he
      have h1 := ih (fun y hy => hV y (by omega)) _ h
      rw [num_congr k (bp_up c k 0) c (fun y hy => bp_up_ne _ (by omega) _)] at h1
      have := hV k (by omega)
      omega
    · cases h
      rw [num_congr k (bp_up c k (c k + 1)) c (fun y hy => bp_up_ne _ (by omega) _), bp_up_eq]
      omega
theorem pt_num (V : Nat → Nat) (n : Nat) (hV : ∀ y, y < n → V y ≤ 4) (t : List (Nat → Nat)) (a b : Nat → Nat) (h : bp_pt (bp_nxt V n) a t b) : (a :: t).Pairwise (fun x y => g_num n x < g_num n y) := by
  induction t generalizing a with
  | nil => exact List.pairwise_singleton _ _
  | cons x t ih =>
    have h1 := nxt_num V n hV a x h.1
    have h2 := ih x h.2
    refine List.pairwise_cons.2 ⟨fun y hy => ?_, h2⟩
    rcases List.mem_cons.1 hy with h' | h'
    · rw [h']; exact h1
    · exact Nat.lt_trans h1 ((List.pairwise_cons.1 h2).1 y h')
