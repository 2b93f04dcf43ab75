/-! PURE: open roads and walks. -/
/-- an arrow that counts now -/
def g_ld (S : bwS) (p x : Nat) : Prop := x < gN S ∧ gD S x = none ∧ p ∈ gP S x
/-- a seen thing at or below -/
def g_sd (S : bwS) (v : Nat) : Prop := ∃ z, z < gN S ∧ g_rc S true v z ∧ gS S z ≠ none
def g_pas (S : bwS) (c a b : Nat) : Prop := (g_ld S c a ∧ g_ld S b a → g_sd S a) ∧ (¬ (g_ld S c a ∧ g_ld S b a) → g_free S a)
/-- an open road from x, its end first -/
def g_op (S : bwS) (x : Nat) : List Nat → Prop
  | [] => False
  | [a] => a = x
  | b :: a :: t => (g_ld S a b ∨ g_ld S b a) ∧ (∀ c s, t = c :: s → g_pas S c a b) ∧ g_op S x (a :: t)
theorem ld_asym {S : bwS} (hS : bwOK S) {a b : Nat} (h : g_ld S a b) : ¬ g_ld S b a := by
  obtain ⟨rk, hrk⟩ := ok_rk hS
  intro h'
  have h1 := hrk b a h.1 h.2.2
  have h2 := hrk a b h'.1 h'.2.2
  omega
theorem ld_ne {S : bwS} (hS : bwOK S) {a b : Nat} (h : g_ld S a b) : a ≠ b := fun he => by
  subst he
  exact ld_asym hS h h
theorem ld_rc {S : bwS} {a b : Nat} (h : g_ld S a b) : g_rc S true a b := rc_step (rc_refl S true a) h.1 (fun _ => h.2.1) h.2.2
theorem rc_trans {S : bwS} {cut : Bool} {a b c : Nat} (h : g_rc S cut a b) (h' : g_rc S cut b c) : g_rc S cut a c := fun Q h1 h2 => h' Q (h Q h1 h2) h2
theorem sd_up {S : bwS} {u v : Nat} (h : g_rc S true u v) (h' : g_sd S v) : g_sd S u := by
  obtain ⟨z, h1, h2, h3⟩ := h'
  exact ⟨z, h1, rc_trans h h2, h3⟩
theorem op_cut {S : bwS} (hS : bwOK S) {x u : Nat} (rest : List Nat) (b : Nat) (ho : g_op S x (b :: rest)) (hd : (b :: rest).Nodup) (hu : u ∈ rest) : ∃ suf, g_op S x (u :: suf) ∧ (u :: suf).Nodup ∧ (∀ c s, suf = c :: s → (g_ld S u c → g_free S u) ∧ (g_ld S c u → g_sd S u ∨ (g_rc S true u b ∧ ∃ a t, rest = a :: t ∧ g_ld S a b))) := by
  induction rest generalizing b with
  | nil => simp at hu
  | cons a t ih =>
    obtain ⟨h1, h2, h3⟩ := ho
    have hd' := (List.nodup_cons.1 hd).2
    by_cases hua : u = a
    · subst hua
      refine ⟨t, h3, hd', fun c s hc => ⟨fun hl => ?_, fun hl => ?_⟩⟩
      · exact (h2 c s hc).2 (fun hh => ld_asym hS hl hh.1)
      · rcases h1 with h | h
        · exact Or.inr ⟨ld_rc h, u, t, rfl, h⟩
        · exact Or.inl ((h2 c s hc).1 ⟨hl, h⟩)
    · have hut : u ∈ t := by
        rcases List.mem_cons.1 hu with h | h
        · exact absurd h hua
        · exact h
      obtain ⟨suf, g1, g2, g3⟩ := ih a h3 hd' hut
      refine ⟨suf, g1, g2, fun c s hc => ⟨(g3 c s hc).1, fun hl => ?_⟩⟩
      rcases (g3 c s hc).2 hl with h | ⟨h, a', t', ht, hl'⟩
      · exact Or.inl h
      · rcases h1 with hab | hba
        · exact Or.inr ⟨rc_trans h (ld_rc hab), a, t, rfl, hab⟩
        · exact Or.inl (sd_up h ((h2 a' t' ht).1 ⟨hl', hba⟩))
/-- a thing that a walk comes to, along an arrow or against one: a road leads there -/
def g_rd (S : bwS) (x t : Nat) (inn : Bool) : Prop := t = x ∨ ∃ c s, g_op S x (t :: c :: s) ∧ (t :: c :: s).Nodup ∧ (inn = true → g_ld S c t ∨ (g_ld S t c ∧ g_free S t)) ∧ (inn = false → g_ld S t c ∨ (g_ld S c t ∧ g_sd S t))
theorem rd_step {S : bwS} (hS : bwOK S) {x t u : Nat} {inn : Bool} (hr : g_rd S x t inn) (he : g_ld S t u ∨ g_ld S u t) (hp : ∀ c s, g_op S x (t :: c :: s) → (inn = true → g_ld S c t ∨ (g_ld S t c ∧ g_free S t)) → (inn = false → g_ld S t c ∨ (g_ld S c t ∧ g_sd S t)) → g_pas S c t u) : (g_ld S t u → g_rd S x u true) ∧ (g_ld S u t → g_rd S x u false) := by
  have hne : u ≠ t := by
    rcases he with h | h
    · exact fun hh => ld_ne hS h hh.symm
    · exact ld_ne hS h
  by_cases hux : u = x
  · exact ⟨fun _ => Or.inl hux, fun _ => Or.inl hux⟩
  rcases hr with htx | ⟨c, s, h1, h2, h3, h4⟩
  · subst htx
    have hop : g_op S t [u, t] := ⟨he, fun c s hc => (by cases hc), rfl⟩
    have hnd : [u, t].Nodup := by simp [hne]
    exact ⟨fun hl => Or.inr ⟨t, [], hop, hnd, fun _ => Or.inl hl, fun h => by cases h⟩, fun hl => Or.inr ⟨t, [], hop, hnd, fun h => (by cases h), fun _ => Or.inl hl⟩⟩
  · have hpas := hp c s h1 h3 h4
    by_cases hmem : u ∈ c :: s
    · obtain ⟨suf, g1, g2, g3⟩ := op_cut hS (c :: s) t h1 h2 hmem
      cases suf with
      | nil =>
        have : u = x := g1
        exact absurd this hux
      | cons c' s' =>
        have hadj : g_ld S c' u ∨ g_ld S u c' := g1.1
        refine ⟨fun hl => Or.inr ⟨c', s', g1, g2, fun _ => ?_, fun h => (by cases h)⟩, fun hl => Or.inr ⟨c', s', g1, g2, fun h => (by cases h), fun _ => ?_⟩⟩
        · rcases hadj with h | h
          · exact Or.inl h
          · exact Or.inr ⟨h, (g3 c' s' rfl).1 h⟩
        · rcases hadj with h | h
          · refine Or.inr ⟨h, ?_⟩
            rcases (g3 c' s' rfl).2 h with h' | ⟨h', a, t', ht, hl'⟩
            · exact h'
            · obtain ⟨rfl, rfl⟩ := List.cons.inj ht
              exact sd_up h' (hpas.1 ⟨hl', hl⟩)
          · exact Or.inl h
    · have hop : g_op S x (u :: t :: c :: s) := ⟨he, fun c2 s2 hc => by obtain ⟨rfl, rfl⟩ := List.cons.inj hc; exact hpas, h1⟩
      have hnd : (u :: t :: c :: s).Nodup := List.nodup_cons.2 ⟨fun hm => by
        rcases List.mem_cons.1 hm with h | h
        · exact hne h
        · exact hmem h, h2⟩
      exact ⟨fun hl => Or.inr ⟨t, c :: s, hop, hnd, fun _ => Or.inl hl, fun h => by cases h⟩, fun hl => Or.inr ⟨t, c :: s, hop, hnd, fun h => (by cases h), fun _ => Or.inl hl⟩⟩
/-- sets that hold what walks from x come to, along and against -/
def g_cls (S : bwS) (x : Nat) (A B : Nat → Prop) : Prop := (∀ u, g_ld S x u → A u) ∧ (∀ p, g_ld S p x → B p) ∧ (∀ t u, t < gN S → g_free S t → (A t ∨ B t) → g_ld S t u → A u) ∧ (∀ t p, t < gN S → ((g_free S t ∧ B t) ∨ (gS S t ≠ none ∧ A t)) → g_ld S p t → B p)
theorem rd_cls {S : bwS} (hS : bwOK S) (x : Nat) : g_cls S x (fun t => g_rd S x t true) (fun t => g_rd S x t false) := by
  refine ⟨fun u hl => ?_, fun p hl => ?_, fun t u ht hf hab hl => ?_, fun t p ht hab hl => ?_⟩
  · by_cases hux : u = x
    · exact Or.inl hux
    · exact Or.inr ⟨x, [], ⟨Or.inl hl, fun c s hc => (by cases hc), rfl⟩, by simp [hux], fun _ => Or.inl hl, fun h => by cases h⟩
  · by_cases hux : p = x
    · exact Or.inl hux
    · exact Or.inr ⟨x, [], ⟨Or.inr hl, fun c s hc => (by cases hc), rfl⟩, by simp [hux], fun h => (by cases h), fun _ => Or.inl hl⟩
  · have hp : ∀ c, g_pas S c t u := fun c => ⟨fun hh => absurd hh.2 (ld_asym hS hl), fun _ => hf⟩
    rcases hab with h | h
    · exact (rd_step hS h (Or.inl hl) (fun c s _ _ _ => hp c)).1 hl
    · exact (rd_step hS h (Or.inl hl) (fun c s _ _ _ => hp c)).1 hl
  · rcases hab with ⟨hf, h⟩ | ⟨hs, h⟩
    · refine (rd_step hS h (Or.inr hl) (fun c s _ _ h4 => ⟨fun hh => ?_, fun _ => hf⟩)).2 hl
      rcases h4 rfl with h' | h'
      · exact absurd hh.1 (ld_asym hS h')
      · exact h'.2
    · refine (rd_step hS h (Or.inr hl) (fun c s _ h3 _ => ⟨fun _ => ⟨t, ht, rc_refl S true t, hs⟩, fun hn => ?_⟩)).2 hl
      rcases h3 rfl with h' | h'
      · exact absurd ⟨h', hl⟩ hn
      · exact h'.2
/-- a way down of k steps to a seen thing -/
def g_dc (S : bwS) : Nat → Nat → Prop
  | 0, v => gS S v ≠ none
  | k + 1, v => ∃ c, g_ld S v c ∧ g_dc S k c
theorem sd_dc {S : bwS} {v : Nat} (h : g_sd S v) : ∃ k, g_dc S k v := by
  obtain ⟨z, h1, h2, h3⟩ := h
  exact h2 (fun w => (∃ k, g_dc S k w) → ∃ k, g_dc S k v) (fun h => h) (fun t p ht hd hp hQ ⟨k, hk⟩ => hQ ⟨k + 1, t, ⟨ht, hd rfl, hp⟩, hk⟩) ⟨0, h3⟩
theorem cls_back {S : bwS} {x : Nat} {A B : Nat → Prop} (hc : g_cls S x A B) (k : Nat) (v : Nat) (hv : v < gN S) (hA : A v) (hd : gD S v = none) (h : g_dc S k v) : gS S v ≠ none ∨ (g_free S v ∧ B v) := by
  induction k generalizing v with
  | zero => exact Or.inl h
  | succ k ih =>
    by_cases hs : gS S v = none
    · obtain ⟨c, hl, hk⟩ := h
      have hf : g_free S v := ⟨hs, hd⟩
      have hAc : A c := hc.2.2.1 v c hv hf (Or.inl hA) hl
      refine Or.inr ⟨hf, ?_⟩
      rcases ih c hl.1 hAc hl.2.1 hk with h' | h'
      · exact hc.2.2.2 c v hl.1 (Or.inr ⟨h', hAc⟩) hl
      · exact hc.2.2.2 c v hl.1 (Or.inl h') hl
    · exact Or.inl hs
theorem op_lt {S : bwS} (hS : bwOK S) {x : Nat} {b a : Nat} {t : List Nat} (h : g_op S x (b :: a :: t)) : b < gN S ∧ a < gN S := by
  rcases h.1 with hl | hl
  · exact ⟨hl.1, ok_pn hS hl.1 hl.2.2⟩
  · exact ⟨ok_pn hS hl.1 hl.2.2, hl.1⟩
theorem op_cls {S : bwS} (hS : bwOK S) {x : Nat} {A B : Nat → Prop} (hc : g_cls S x A B) (t : List Nat) (b a : Nat) (h : g_op S x (b :: a :: t)) : (g_ld S a b → A b) ∧ (g_ld S b a → B b) := by
  induction t generalizing b a with
  | nil =>
    have hax : a = x := h.2.2
    subst hax
    exact ⟨hc.1 b, hc.2.1 b⟩
  | cons c s ih =>
    have hp := h.2.1 c s rfl
    have h3 : g_op S x (a :: c :: s) := h.2.2
    have hi := ih a c h3
    have ha := (op_lt hS h).2
    have hab : A a ∨ B a := by
      rcases h3.1 with hl | hl
      · exact Or.inl (hi.1 hl)
      · exact Or.inr (hi.2 hl)
    refine ⟨fun hl => hc.2.2.1 a b ha (hp.2 (fun hh => ld_asym hS hl hh.2)) hab hl, fun hl => ?_⟩
    rcases h3.1 with hca | hac
    · obtain ⟨k, hk⟩ := sd_dc (hp.1 ⟨hca, hl⟩)
      rcases cls_back hc k a ha (hi.1 hca) hca.2.1 hk with h' | h'
      · exact hc.2.2.2 a b ha (Or.inr ⟨h', hi.1 hca⟩) hl
      · exact hc.2.2.2 a b ha (Or.inl h') hl
    · exact hc.2.2.2 a b ha (Or.inl ⟨hp.2 (fun hh => ld_asym hS hac hh.1), hi.2 hac⟩) hl
/-- a road leads from x to y -/
def g_road (S : bwS) (x y : Nat) : Prop := ∃ s, g_op S x (y :: s) ∧ (y :: s).Nodup
theorem road_iff {S : bwS} (hS : bwOK S) {x y : Nat} (hxy : y ≠ x) {A B : Nat → Prop} (hc : g_cls S x A B) (hmin : ∀ A' B' : Nat → Prop, g_cls S x A' B' → (∀ t, A t → A' t) ∧ (∀ t, B t → B' t)) : (A y ∨ B y) ↔ g_road S x y := by
  constructor
  · intro h
    have hm := hmin _ _ (rd_cls hS x)
    have : ∃ b, g_rd S x y b := by
      rcases h with h | h
      · exact ⟨true, hm.1 y h⟩
      · exact ⟨false, hm.2 y h⟩
    obtain ⟨b, hr⟩ := this
    rcases hr with h' | ⟨c, s, h1, h2, _⟩
    · exact absurd h' hxy
    · exact ⟨c :: s, h1, h2⟩
  · rintro ⟨s, h1, h2⟩
    cases s with
    | nil =>
      have : y = x := h1
      exact absurd this hxy
    | cons a t =>
      have := op_cls hS hc t y a h1
      rcases h1.1 with hl | hl
      · exact Or.inl (this.1 hl)
      · exact Or.inr (this.2 hl)
