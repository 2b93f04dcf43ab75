/-! SOUNDNESS: a step of the abstract machine is a step of the machine. -/
section ELIM
theorem be_gI {v : bwV} {k : Int32 → Prop} (h : bw_gI v False k) : ∃ x, v = .inl x ∧ k x := by
  rcases v with x | x | x
  · exact ⟨x, rfl, h⟩
  · exact h.elim
  · exact h.elim
theorem be_gL {v : bwV} {k : Int64 → Prop} (h : bw_gL v False k) : ∃ x, v = .inr (.inl x) ∧ k x := by
  rcases v with x | x | x
  · exact h.elim
  · exact ⟨x, rfl, h⟩
  · exact h.elim
theorem be_gR {v : bwV} {k : Nat → Prop} (h : bw_gR v False k) : ∃ x, v = .inr (.inr x) ∧ k x := by
  rcases v with x | x | x
  · exact h.elim
  · exact h.elim
  · exact ⟨x, rfl, h⟩
theorem be_pp {st : List bwV} {k : bwV → List bwV → Prop} (h : bw_pp st False k) : ∃ v r, st = v :: r ∧ k v r := by
  rcases st with _ | ⟨v, r⟩
  · exact h.elim
  · exact ⟨v, r, rfl, h⟩
theorem be_lk {o : Option (Option bwV)} {k : bwV → Prop} (h : bw_lk o False k) : ∃ v, o = some (some v) ∧ k v := by
  rcases o with _ | _ | v
  · exact h.elim
  · exact h.elim
  · exact ⟨v, rfl, h⟩
theorem be_nl {st : List bwV} {k : Prop} (h : bw_nl st False k) : st = [] ∧ k := by
  rcases st with _ | ⟨v, r⟩
  · exact ⟨rfl, h⟩
  · exact h.elim
theorem be_bI {r : Option bwR} {k : Int32 → bwM → Prop} (h : bw_bI r False k) : ∃ x μ, r = some (some (.inl x), μ) ∧ k x μ := by
  rcases r with _ | ⟨_ | x | x | x, μ⟩
  · exact h.elim
  · exact h.elim
  · exact ⟨x, μ, rfl, h⟩
  · exact h.elim
  · exact h.elim
theorem be_bL {r : Option bwR} {k : Int64 → bwM → Prop} (h : bw_bL r False k) : ∃ x μ, r = some (some (.inr (.inl x)), μ) ∧ k x μ := by
  rcases r with _ | ⟨_ | x | x | x, μ⟩
  · exact h.elim
  · exact h.elim
  · exact h.elim
  · exact ⟨x, μ, rfl, h⟩
  · exact h.elim
theorem be_bV {r : Option bwR} {k : bwM → Prop} (h : bw_bV r False k) : ∃ μ, r = some (none, μ) ∧ k μ := by
  rcases r with _ | ⟨_ | x, μ⟩
  · exact h.elim
  · exact ⟨μ, rfl, h⟩
  · exact h.elim
theorem be_i1 {st : List bwV} {k : Int32 → List bwV → Prop} (h : bw_i1 st False k) : ∃ x r, st = .inl x :: r ∧ k x r := by
  obtain ⟨v, r, e1, h1⟩ := be_pp h
  obtain ⟨x, e2, h2⟩ := be_gI h1
  exact ⟨x, r, by rw [e1, e2], h2⟩
theorem be_l1 {st : List bwV} {k : Int64 → List bwV → Prop} (h : bw_l1 st False k) : ∃ x r, st = .inr (.inl x) :: r ∧ k x r := by
  obtain ⟨v, r, e1, h1⟩ := be_pp h
  obtain ⟨x, e2, h2⟩ := be_gL h1
  exact ⟨x, r, by rw [e1, e2], h2⟩
theorem be_r1 {st : List bwV} {k : Nat → List bwV → Prop} (h : bw_r1 st False k) : ∃ x r, st = .inr (.inr x) :: r ∧ k x r := by
  obtain ⟨v, r, e1, h1⟩ := be_pp h
  obtain ⟨x, e2, h2⟩ := be_gR h1
  exact ⟨x, r, by rw [e1, e2], h2⟩
theorem be_i2 {st : List bwV} {k : Int32 → Int32 → List bwV → Prop} (h : bw_i2 st False k) : ∃ x y r, st = .inl y :: .inl x :: r ∧ k x y r := by
  obtain ⟨v, r, e1, h1⟩ := be_pp h
  obtain ⟨v2, r2, e2, h2⟩ := be_pp h1
  obtain ⟨y, e3, h3⟩ := be_gI h2
  obtain ⟨x, e4, h4⟩ := be_gI h3
  exact ⟨x, y, r2, by rw [e1, e2, e3, e4], h4⟩
theorem be_l2 {st : List bwV} {k : Int64 → Int64 → List bwV → Prop} (h : bw_l2 st False k) : ∃ x y r, st = .inr (.inl y) :: .inr (.inl x) :: r ∧ k x y r := by
  obtain ⟨v, r, e1, h1⟩ := be_pp h
  obtain ⟨v2, r2, e2, h2⟩ := be_pp h1
  obtain ⟨y, e3, h3⟩ := be_gL h2
  obtain ⟨x, e4, h4⟩ := be_gL h3
  exact ⟨x, y, r2, by rw [e1, e2, e3, e4], h4⟩
theorem be_ar {k : List bwV → List bwV → Prop} : ∀ (n : Nat) (st acc : List bwV), bw_ar n st acc False k → ∃ as r, st = as.reverse ++ r ∧ as.length = n ∧ k (as ++ acc) r := by
  intro n
  induction n with
  | zero => intro st acc h; exact ⟨[], st, rfl, rfl, h⟩
  | succ n ih =>
    intro st acc h
    rcases st with _ | ⟨v, q⟩
    · exact h.elim
    · obtain ⟨as, r, h1, h2, h3⟩ := ih q (v :: acc) h
      exact ⟨as ++ [v], r, by rw [h1]; simp, by simp [h2], by simpa using h3⟩
theorem be_rc {as : List bwV} {c : Nat} {cls : Nat → Nat} {k : Prop} (h : bw_rc as c cls False k) : ∃ o q, as = .inr (.inr o) :: q ∧ cls o = c ∧ k := by
  rcases as with _ | ⟨x | x | x, q⟩
  · exact h.elim
  · exact h.elim
  · exact h.elim
  · change (bif Nat.beq (cls x) c then k else False) at h
    cases hb : Nat.beq (cls x) c with
    | true => rw [hb] at h; exact ⟨x, q, rfl, bw_beq hb, h⟩
    | false => rw [hb] at h; exact h.elim
theorem be_b {c : Bool} {k : Prop} (h : bif c then k else False) : c = true ∧ k := by
  cases c
  · exact h.elim
  · exact ⟨rfl, h⟩
theorem be_bn {c : Bool} {k : Prop} (h : bif c then False else k) : c = false ∧ k := by
  cases c
  · exact ⟨rfl, h⟩
  · exact h.elim
theorem be_if {c : Prop} [d : Decidable c] {k : Prop} (h : if c then k else False) : c ∧ k := by
  by_cases hc : c
  · rw [if_pos hc] at h; exact ⟨hc, h⟩
  · rw [if_neg hc] at h; exact h.elim
theorem be_ifn {c : Prop} [d : Decidable c] {k : Prop} (h : if c then False else k) : ¬ c ∧ k := by
  by_cases hc : c
  · rw [if_pos hc] at h; exact h.elim
  · rw [if_neg hc] at h; exact ⟨hc, h⟩
theorem be_t {c : Prop} [d : Decidable c] {x y : Prop} (h : if c then x else y) (hc : c) : x := by rw [if_pos hc] at h; exact h
theorem be_f {c : Prop} [d : Decidable c] {x y : Prop} (h : if c then x else y) (hc : ¬ c) : y := by rw [if_neg hc] at h; exact h
end ELIM
theorem bw_cell_0 {ad : Nat → Nat} {cI cJ cZ : ClassId} {o : Nat} {f : Nat → Int32} {g : Nat → Int64} (h : bw_kd o = 0) : bw_cell ad cI cJ cZ o f g = .inr (bw_cls o, bw_fd ad o f g) := by
  unfold bw_cell; rw [h]; rfl
theorem bw_cell_1 {ad : Nat → Nat} {cI cJ cZ : ClassId} {o : Nat} {f : Nat → Int32} {g : Nat → Int64} (h : bw_kd o = 1) : bw_cell ad cI cJ cZ o f g = .inl (cI, bw_len o, .inl f) := by
  unfold bw_cell; rw [h]; rfl
theorem bw_cell_2 {ad : Nat → Nat} {cI cJ cZ : ClassId} {o : Nat} {f : Nat → Int32} {g : Nat → Int64} (h : bw_kd o = 2) : bw_cell ad cI cJ cZ o f g = .inl (cJ, bw_len o, .inr (.inl g)) := by
  unfold bw_cell; rw [h]; rfl
theorem bw_cell_3 {ad : Nat → Nat} {cI cJ cZ : ClassId} {o : Nat} {f : Nat → Int32} {g : Nat → Int64} (h : bw_kd o = 3) : bw_cell ad cI cJ cZ o f g = .inl (cZ, bw_len o, .inl f) := by
  unfold bw_cell; rw [h]; rfl
/-- the words that last over calls -/
def bw_ws : List Cond := lw_tbl.filter goodWord
theorem bw_gd {w : Cond} (h : w ∈ lw_tbl) (hg : goodWord w = true) : w ∈ bw_ws := List.mem_filter.mpr ⟨h, hg⟩
theorem bw_gdX0 : wsX00.all goodWord = true := by decide +kernel
theorem bw_gdX1 : wsX10.all goodWord = true := by decide +kernel
theorem bw_gdX2 : wsX20.all goodWord = true := by decide +kernel
theorem bw_gdX3 : wsX30.all goodWord = true := by decide +kernel
theorem bw_gdX4 : wsX40.all goodWord = true := by decide +kernel
theorem bw_cls_ws2 : ∀ (b : Nat) (r : vw_C), vwCl[b]? = some r → ∀ w ∈ u_ws r.1 r.2.1 r.2.2, w ∈ bw_ws := by
  intro b r h w hw
  refine bw_gd (bw_cls_ws b r h w hw) ?_
  match b, h with
  | 0, h => cases h; exact List.all_eq_true.mp bw_gdX0 w hw
  | 1, h => cases h; exact List.all_eq_true.mp bw_gdX1 w hw
  | 2, h => cases h; exact List.all_eq_true.mp bw_gdX2 w hw
  | 3, h => cases h; exact List.all_eq_true.mp bw_gdX3 w hw
  | 4, h => cases h; exact List.all_eq_true.mp bw_gdX4 w hw
  | b + 5, h => simp [vwCl] at h
def bw_B (ad : Nat → Nat) (D : va_G) (cI cJ cZ : ClassId) (A1 : Nat → Prop) (u : bwM) (t : State) : Prop := va_P D vwCl (bw_cells ad cI cJ cZ u) t.heap ∧ va_K D vwCl (bw_tys cI cJ cZ) t ∧ va_D A1 (bw_cells ad cI cJ cZ u)
/-- links to private methods of the nest: they last over calls by themselves -/
def bw_Nst (U : State) : Prop := ∀ (n i : Nat) (y : MethodName), Cond.methodLinkNest (bw_own n) i y "BeliefWeb" ∈ lw_tbl → va_Nw (.methodLinkNest (bw_own n) i y "BeliefWeb") U
def bw_Pre (ad : Nat → Nat) (D : va_G) (cI cJ cZ : ClassId) (as : List bwV) (μ : bwM) (sz : Nat) : Array Value → State → Prop := va_Pc (as.map (bw_cv ad)) (fun U => U.heap.size = sz ∧ va_P D vwCl (bw_cells ad cI cJ cZ μ) U.heap ∧ va_K D vwCl (bw_tys cI cJ cZ) U ∧ va_D (fun _ => True) (bw_cells ad cI cJ cZ μ) ∧ bw_Nst U)
def bw_Post (ad : Nat → Nat) (D : va_G) (cI cJ cZ : ClassId) (r : Option bwV) (μ' : bwM) (A1 : Nat → Prop) : Array Value → State → Outcome → State → Prop := match r with
  | none => va_Qv (fun u : bwM => u = μ') (bw_B ad D cI cJ cZ A1) A1
  | some (.inl x) => va_Qi (fun (v : Int32) (u : bwM) => v = x ∧ u = μ') (bw_B ad D cI cJ cZ A1) A1
  | some (.inr (.inl x)) => va_Ql (fun (v : Int64) (u : bwM) => v = x ∧ u = μ') (bw_B ad D cI cJ cZ A1) A1
  | some (.inr (.inr _)) => fun _ _ _ _ => False
def bw_rm (d : Nat) : Room := { frames := d, cells := 0, slots := 0, locals := d * 64 }
/-- the contracts of all methods, at a depth -/
def bw_CS (l : Launch) (ad : Nat → Nat) (D : va_G) (cI cJ cZ : ClassId) (d : Nat) : Prop := ∀ (m : Nat) (as : List bwV) (μ : bwM) (r : Option bwV) (μ' : bwM), bw_call d m as μ = some (r, μ') → ∀ g : bwG, bw_nth bw_sg m = some g → ∀ sz : Nat,
  Met l g.2.1 (bw_cw g :: bw_ws) (bw_rm d) (bw_Pre ad D cI cJ cZ as μ sz) (bw_Post ad D cI cJ cZ r μ' (va_A (bw_cells ad cI cJ cZ μ) sz)) 0 0 (va_A (bw_cells ad cI cJ cZ μ) sz)
theorem bw_good {g : bwG} (h : bw_cw g ∈ lw_tbl) : GoodIn bw_ws (bw_cw g :: bw_ws) := by
  intro w hw
  have h2 : w ∈ bw_ws := by
    rcases List.mem_cons.mp hw with e | e
    · rw [e]; exact bw_gd h rfl
    · exact e
  exact ⟨h2, good_of_word (List.mem_filter.mp h2).2⟩
theorem bw_blind {ad : Nat → Nat} {D : va_G} {cI cJ cZ : ClassId} {as : List bwV} {μ : bwM} {sz : Nat} : FrameBlind (bw_Pre ad D cI cJ cZ as μ sz) := by
  intro a U g mk q
  obtain ⟨q0, q1, qP, qK, qD, qN⟩ := q
  exact ⟨q0, q1, qP, va_K.moved (u := U) (U := U.calling g mk a) (Vm.Alike.refl U.vm) qK, qD, fun n i y hy => va_Nw.same (u := U) (U := U.calling g mk a) rfl rfl (qN n i y hy)⟩
section SOUND
variable {p : Program} {l : Launch} {e : Env} {R : Room} {s : State} {m : MethodId} {args : Array Value} {below : List Frame} {meth : Method} {c : Code} {cs ss : Nat} {Q : State → Prop}
variable {ad : Nat → Nat} {D : va_G} {cI cJ cZ : ClassId} {A : Nat → Prop} {H0 : Heap} {cc : ByteArray} {nL own : Nat} {d : Nat}
/-- the machine, at an abstract state, comes to a state with Q -/
def bw_W (p : Program) (l : Launch) (e : Env) (R : Room) (s : State) (m : MethodId) (args : Array Value) (below : List Frame) (meth : Method) (c : Code) (cs ss : Nat) (Q : State → Prop) (ad : Nat → Nat) (D : va_G) (cI cJ cZ : ClassId) (A : Nat → Prop) (H0 : Heap) (nL : Nat) (pc : Nat) (ls : List (Option bwV)) (st : List bwV) (μ : bwM) : Prop :=
  ∀ (H : Heap) (locs : List Loc) (lsA : Array Slot), va_P D vwCl (bw_cells ad cI cJ cZ μ) H → va_D A (bw_cells ad cI cJ cZ μ) → va_S A H0 H locs → lv_has lsA nL (bw_lv ad 0 ls) → W p l e R s m args below meth c H locs cs ss Q (F0 m pc lsA (st.map (bw_cv ad)))
def bw_Cx (p : Program) (s : State) (m : MethodId) (args : Array Value) (c : Code) (own : Nat) (cc : ByteArray) (nL : Nat) (D : va_G) (cI cJ cZ : ClassId) (A : Nat → Prop) (H0 : Heap) : Prop :=
  p.tables.exec = Jvm.exec ∧ c.code = cc ∧ c.maxLocals = nL ∧ s.vm.findClass (bw_own own) = some m.cls ∧ (∀ w ∈ bw_ws, w.before args s = true) ∧ va_K D vwCl (bw_tys cI cJ cZ) s ∧ (∀ q, H0.size ≤ q → A q) ∧ bw_Nst s
theorem bw_toA {μ : bwM} {H : Heap} {locs : List Loc} (hD : va_D A (bw_cells ad cI cJ cZ μ)) (hS : va_S A H0 H locs) (hA : ∀ q, H0.size ≤ q → A q) : ∀ q, va_A (bw_cells ad cI cJ cZ μ) H.size q → A q := by
  rintro q (⟨k, e, h⟩ | h)
  · exact hD.2 k _ h
  · exact hA q (Nat.le_trans hS.1 h)
/-- a call, static or virtual: what the run gives, behind it -/
theorem bw_call_go {pc : Nat} {ls : List (Option bwV)} {r : List bwV} {μ : bwM} {H : Heap} {locs : List Loc} {lsA : Array Slot} {as : List bwV} {a rt : Nat} {av : Array Value} {st0 : List Value}
    (hC : bw_Cx p s m args c own cc nL D cI cJ cZ A H0) (hD : va_D A (bw_cells ad cI cJ cZ μ)) (hS : va_S A H0 H locs) (hl : lv_has lsA nL (bw_lv ad 0 ls))
    (h : match rt with
      | 0 => bw_bV (bw_call d a as μ) False fun μ => bw_W p l e R s m args below meth c cs ss Q ad D cI cJ cZ A H0 nL (pc + 3) ls r μ
      | 2 => bw_bL (bw_call d a as μ) False fun x μ => bw_W p l e R s m args below meth c cs ss Q ad D cI cJ cZ A H0 nL (pc + 3) ls (.inr (.inl x) :: r) μ
      | _ => bw_bI (bw_call d a as μ) False fun x μ => bw_W p l e R s m args below meth c cs ss Q ad D cI cJ cZ A H0 nL (pc + 3) ls (.inl x :: r) μ)
    (run : ∀ (v : Option bwV) (μ' : bwM), bw_call d a as μ = some (v, μ') → va_Run p l e R s m args below meth c H locs cs ss 0 0 (F0 m pc lsA st0) (r.map (bw_cv ad)) (bw_Post ad D cI cJ cZ v μ' (va_A (bw_cells ad cI cJ cZ μ) H.size) av) (va_A (bw_cells ad cI cJ cZ μ) H.size)) :
    W p l e R s m args below meth c H locs cs ss Q (F0 m pc lsA st0) := by
  obtain ⟨-, -, -, -, -, -, hA, -⟩ := hC
  have hFc := bw_toA hD hS hA
  split at h
  · obtain ⟨μ', hc, h⟩ := be_bV h
    refine va_callv (a := av) (run _ _ hc) hS (fun q _ h => hFc q h) hFc (fun u t H1 locs1 ht hvm hw hB hz1 hk1 hS1 => ?_)
    subst hw
    obtain ⟨hP1, hK1, hD1⟩ := hB
    rw [ht] at hP1
    exact h H1 locs1 lsA hP1 ⟨hD1.1, fun k q hq => hFc _ (hD1.2 k q hq)⟩ hS1 hl
  · obtain ⟨x, μ', hc, h⟩ := be_bL h
    refine va_calll (a := av) (run _ _ hc) hS (fun q _ h => hFc q h) hFc (fun rv u t H1 locs1 ht hvm hw hB hz1 hk1 hS1 => ?_)
    obtain ⟨e1, e2⟩ := hw
    subst e1; subst e2
    obtain ⟨hP1, hK1, hD1⟩ := hB
    rw [ht] at hP1
    exact h H1 locs1 lsA hP1 ⟨hD1.1, fun k q hq => hFc _ (hD1.2 k q hq)⟩ hS1 hl
  · obtain ⟨x, μ', hc, h⟩ := be_bI h
    refine va_calli (a := av) (run _ _ hc) hS (fun q _ h => hFc q h) hFc (fun rv u t H1 locs1 ht hvm hw hB hz1 hk1 hS1 => ?_)
    obtain ⟨e1, e2⟩ := hw
    subst e1; subst e2
    obtain ⟨hP1, hK1, hD1⟩ := hB
    rw [ht] at hP1
    exact h H1 locs1 lsA hP1 ⟨hD1.1, fun k q hq => hFc _ (hD1.2 k q hq)⟩ hS1 hl
theorem bw_pre_at {as : List bwV} {μ : bwM} {H : Heap} (hC : bw_Cx p s m args c own cc nL D cI cJ cZ A H0) (hP : va_P D vwCl (bw_cells ad cI cJ cZ μ) H) (hD : va_D A (bw_cells ad cI cJ cZ μ)) : ∀ U : State, U.heap = H → s.WarmedH U.vm → bw_Pre ad D cI cJ cZ as μ H.size (as.map (bw_cv ad)).toArray U := by
  obtain ⟨-, -, -, -, -, hK, -, hN⟩ := hC
  intro U hU hW
  exact ⟨rfl, by rw [hU], by rw [hU]; exact hP, va_K.moved hW.alike hK, hD.weaken (fun _ _ _ _ => trivial), fun n i y hy => va_Nw.warmM hW (hN n i y hy)⟩
/-- the script, if there is one: cell 60 -/
def bw_Sc (ad : Nat → Nat) (A : Nat → Prop) (s : State) (H0 : Heap) (sl : Nat) (sx : Nat → Int32) : Prop := sl = 0 ∨ (va_X (ad 60) (sl - 1) sx s H0 ∧ ad 60 < H0.size ∧ ¬ A (ad 60))
theorem bw_swgo {pc : Nat} {ls : List (Option bwV)} {r : List bwV} {μ : bwM} {x : Int32} {dW : Prop} {k : Nat → Prop} : ∀ (offs : List Int) (lo : Int) (sw : List (Int32 × Nat)), bw_swok pc lo offs sw = true → bw_sw x sw dW k → (dW ∧ (x.toInt < lo ∨ lo + (offs.length : Int) ≤ x.toInt)) ∨ ∃ (off : Int) (t : Nat), lo ≤ x.toInt ∧ x.toInt < lo + (offs.length : Int) ∧ offs[(x.toInt - lo).toNat]? = some off ∧ (pc : Int) + off = (t : Int) ∧ k t := by
  intro offs
  induction offs with
  | nil =>
    intro lo sw h1 h2
    cases sw with
    | nil => exact Or.inl ⟨h2, by simp; omega⟩
    | cons q sw => cases h1
  | cons o offs ih =>
    intro lo sw h1 h2
    cases sw with
    | nil => cases h1
    | cons q sw =>
      simp only [bw_swok, Bool.and_eq_true, decide_eq_true_eq] at h1
      obtain ⟨⟨g1, g2⟩, g3⟩ := h1
      unfold bw_sw at h2
      by_cases hx : x = q.1
      · rw [if_pos hx] at h2
        refine Or.inr ⟨o, q.2, by rw [hx, g1]; exact Int.le_refl _, by rw [hx, g1]; simp; omega, ?_, g2, h2⟩
        rw [hx, g1, Int.sub_self]; rfl
      · rw [if_neg hx] at h2
        have hne : x.toInt ≠ lo := fun e => hx (Int32.toInt_inj.mp (e.trans g1.symm))
        rcases ih (lo + 1) sw g3 h2 with ⟨a1, a2⟩ | ⟨off, t, a1, a2, a3, a4, a5⟩
        · refine Or.inl ⟨a1, ?_⟩
          simp only [List.length_cons]; omega
        · refine Or.inr ⟨off, t, by omega, by simp only [List.length_cons]; omega, ?_, a4, a5⟩
          rw [show (x.toInt - lo).toNat = (x.toInt - (lo + 1)).toNat + 1 by omega]
          exact a3
theorem bw_fd_at {o a : Nat} {f : Nat → Int32} {g : Nat → Int64} (h : a < bw_nf (bw_cls o)) : (bw_fd ad o f g)[a]? = some (match bw_ft (bw_cls o) a with
    | 0 => .int (f a)
    | 1 => .long (g a)
    | _ => .ref (ad (bw_rf o a))) := by
  simp [bw_fd, h]
  rfl
theorem bw_fd_len {o : Nat} {f : Nat → Int32} {g : Nat → Int64} : (bw_fd ad o f g).length = bw_nf (bw_cls o) := by simp [bw_fd]
theorem bw_fd_setI {o a : Nat} {f : Nat → Int32} {g : Nat → Int64} {x : Int32} (h : bw_ft (bw_cls o) a = 0) (ha : a < bw_nf (bw_cls o)) : (bw_fd ad o f g).set a (.int x) = bw_fd ad o (upd f a x) g := by
  apply List.ext_getElem?
  intro i
  rw [List.getElem?_set, bw_fd_len]
  by_cases hi : i < bw_nf (bw_cls o)
  · by_cases e : a = i
    · subst e
      rw [if_pos rfl, if_pos hi, bw_fd_at hi, h]
      simp [upd]
    · rw [if_neg e, bw_fd_at hi, bw_fd_at hi]
      simp [upd, Ne.symm e]
  · rw [List.getElem?_eq_none (by rw [bw_fd_len]; omega), List.getElem?_eq_none (by rw [bw_fd_len]; omega)]
    by_cases e : a = i
    · omega
    · rw [if_neg e]
theorem bw_fd_setL {o a : Nat} {f : Nat → Int32} {g : Nat → Int64} {x : Int64} (h : bw_ft (bw_cls o) a = 1) (ha : a < bw_nf (bw_cls o)) : (bw_fd ad o f g).set a (.long x) = bw_fd ad o f (vp_updL g a x) := by
  apply List.ext_getElem?
  intro i
  rw [List.getElem?_set, bw_fd_len]
  by_cases hi : i < bw_nf (bw_cls o)
  · by_cases e : a = i
    · subst e
      rw [if_pos rfl, if_pos hi, bw_fd_at hi, h]
      simp [vp_updL]
    · rw [if_neg e, bw_fd_at hi, bw_fd_at hi]
      simp [vp_updL, Ne.symm e]
  · rw [List.getElem?_eq_none (by rw [bw_fd_len]; omega), List.getElem?_eq_none (by rw [bw_fd_len]; omega)]
    by_cases e : a = i
    · omega
    · rw [if_neg e]
theorem bw_getf {pc i a b : Nat} {ls : List (Option bwV)} {st : List bwV} {μ : bwM} (hC : bw_Cx p s m args c own cc nL D cI cJ cZ A H0) (hdg : decode cc pc = .ok (.getfield i, 3)) (ok : (bw_fl.any fun q => Nat.beq q.1 own && Nat.beq q.2.1 i && Nat.beq q.2.2.1 b && Nat.beq q.2.2.2.1 a) = true)
    (h : bw_r1 st False fun o r => bif Nat.beq (bw_cls o) b then (match bw_ft b a with
      | 0 => bw_W p l e R s m args below meth c cs ss Q ad D cI cJ cZ A H0 nL (pc + 3) ls (.inl (μ.1 o a) :: r) μ
      | 1 => bw_W p l e R s m args below meth c cs ss Q ad D cI cJ cZ A H0 nL (pc + 3) ls (.inr (.inl (μ.2 o a)) :: r) μ
      | _ => bw_W p l e R s m args below meth c cs ss Q ad D cI cJ cZ A H0 nL (pc + 3) ls (.inr (.inr (bw_rf o a)) :: r) μ) else False) :
    bw_W p l e R s m args below meth c cs ss Q ad D cI cJ cZ A H0 nL pc ls st μ := by
  intro H locs lsA hP hD hS hl
  obtain ⟨o, r, hst, h1⟩ := be_r1 h
  obtain ⟨hb1, h2⟩ := be_b h1
  clear h h1
  subst hst
  have hcl := bw_beq hb1
  obtain ⟨vr, hvr, ha, hlk⟩ := bw_fl_use ok
  obtain ⟨hnf, hb5⟩ := bw_cls_nf _ _ hvr
  obtain ⟨ho1, ho2⟩ := bw_cls_ob hcl hb5
  obtain ⟨hx, hb, hml, hown, hts, hK, hA, hN⟩ := id hC
  have hcell : (bw_cells ad cI cJ cZ μ)[o]? = some (ad o, .inr (b, bw_fd ad o (μ.1 o) (μ.2 o))) := by
    rw [bw_cells_at ho1, bw_cell_0 ho2, hcl]
  have hat := bw_fd_at (ad := ad) (o := o) (a := a) (f := μ.1 o) (g := μ.2 o) (by rw [hcl, ← hnf]; exact ha)
  rw [hcl] at hat
  refine va_get (D := D) (ci := b) (Ts := bw_ws) hx hb hts (bw_cls_ws2 _ _ hvr) hown hK hP o hcell hvr a ha (hts _ (bw_gd hlk rfl)) (fun _ h => h) hat hdg ?_
  split at h2
  · exact h2 H locs lsA hP hD hS hl
  · exact h2 H locs lsA hP hD hS hl
  · exact h2 H locs lsA hP hD hS hl
set_option maxHeartbeats 1000000 in
theorem bw_putf {pc i a b : Nat} {ls : List (Option bwV)} {st : List bwV} {μ : bwM} (hC : bw_Cx p s m args c own cc nL D cI cJ cZ A H0) (hdg : decode cc pc = .ok (.putfield i, 3)) (ok : (bw_fl.any fun q => Nat.beq q.1 own && Nat.beq q.2.1 i && Nat.beq q.2.2.1 b && Nat.beq q.2.2.2.1 a) = true)
    (h : bw_pp st False fun x r => bw_r1 r False fun o r => bif Nat.beq (bw_cls o) b then (match bw_ft b a with
      | 0 => bw_gI x False fun x => bw_W p l e R s m args below meth c cs ss Q ad D cI cJ cZ A H0 nL (pc + 3) ls r (bw_si μ o a x)
      | 1 => bw_gL x False fun x => bw_W p l e R s m args below meth c cs ss Q ad D cI cJ cZ A H0 nL (pc + 3) ls r (bw_sl μ o a x)
      | _ => False) else False) :
    bw_W p l e R s m args below meth c cs ss Q ad D cI cJ cZ A H0 nL pc ls st μ := by
  intro H locs lsA hP hD hS hl
  obtain ⟨x, r0, hst0, h0⟩ := be_pp h
  obtain ⟨o, r, hst, h1⟩ := be_r1 h0
  obtain ⟨hb1, h2⟩ := be_b h1
  clear h h0 h1
  subst hst
  subst hst0
  have hcl := bw_beq hb1
  obtain ⟨vr, hvr, ha, hlk⟩ := bw_fl_use ok
  obtain ⟨hnf, hb5⟩ := bw_cls_nf _ _ hvr
  obtain ⟨ty0, hty, hnm, hft⟩ := bw_cls_ty _ _ hvr
  obtain ⟨ho1, ho2⟩ := bw_cls_ob hcl hb5
  obtain ⟨hx, hb, hml, hown, hts, hK, hA, hN⟩ := id hC
  have hcell : (bw_cells ad cI cJ cZ μ)[o]? = some (ad o, .inr (b, bw_fd ad o (μ.1 o) (μ.2 o))) := by
    rw [bw_cells_at ho1, bw_cell_0 ho2, hcl]
  have hfl : a < (bw_fd ad o (μ.1 o) (μ.2 o)).length := by rw [bw_fd_len, hcl, ← hnf]; exact ha
  have hab : a < bw_nf (bw_cls o) := by rw [hcl, ← hnf]; exact ha
  split at h2
  · rename_i hk
    obtain ⟨x, rfl, h3⟩ := be_gI h2
    obtain ⟨f1, f2⟩ := (hft a ha).1 hk
    have hd := hty a ha
    rw [f2] at hd
    have hset : (bw_cells ad cI cJ cZ μ).set o (ad o, .inr (b, (bw_fd ad o (μ.1 o) (μ.2 o)).set a (.int x))) = bw_cells ad cI cJ cZ (bw_si μ o a x) := by
      refine bw_cells_set ?_ bw_si_ne (fun _ _ => rfl)
      rw [bw_cell_0 ho2, bw_si_eq, bw_fd_setI (by rw [hcl]; exact hk) hab, hcl]
      rfl
    refine va_put (D := D) (ci := b) (v := .int x) (ty := .int) (Ts := bw_ws) hx hb hts (bw_cls_ws2 _ _ hvr) ty0 hty hnm hown hK hP hD hS o hcell hvr a ha (hts _ (bw_gd hlk rfl)) (fun _ h => h) f1 hd rfl rfl hfl hdg (fun H1 locs1 hP1 hD1 hS1 => ?_)
    rw [hset] at hP1 hD1
    exact h3 H1 locs1 lsA hP1 hD1 hS1 hl
  · rename_i hk
    obtain ⟨x, rfl, h3⟩ := be_gL h2
    obtain ⟨f1, f2⟩ := (hft a ha).2 hk
    have hd := hty a ha
    rw [f2] at hd
    have hset : (bw_cells ad cI cJ cZ μ).set o (ad o, .inr (b, (bw_fd ad o (μ.1 o) (μ.2 o)).set a (.long x))) = bw_cells ad cI cJ cZ (bw_sl μ o a x) := by
      refine bw_cells_set ?_ (fun _ _ => rfl) bw_sl_ne
      rw [bw_cell_0 ho2, bw_sl_eq, bw_fd_setL (by rw [hcl]; exact hk) hab, hcl]
      rfl
    refine va_put (D := D) (ci := b) (v := .long x) (ty := .long) (Ts := bw_ws) hx hb hts (bw_cls_ws2 _ _ hvr) ty0 hty hnm hown hK hP hD hS o hcell hvr a ha (hts _ (bw_gd hlk rfl)) (fun _ h => h) f1 hd rfl rfl hfl hdg (fun H1 locs1 hP1 hD1 hS1 => ?_)
    rw [hset] at hP1 hD1
    exact h3 H1 locs1 lsA hP1 hD1 hS1 hl
  · exact h2.elim
theorem bw_kb {o n : Nat} (h : (Nat.blt o 53 && Nat.beq (bw_kd o) n) = true) : o < 53 ∧ bw_kd o = n := by
  simp only [Bool.and_eq_true] at h
  exact ⟨Nat.le_of_ble_eq_true h.1, bw_beq h.2⟩
theorem bw_cell1 {μ : bwM} {o : Nat} (h : (Nat.blt o 53 && Nat.beq (bw_kd o) 1) = true) : (bw_cells ad cI cJ cZ μ)[o]? = some (ad o, .inl (cI, bw_len o, .inl (μ.1 o))) := by
  obtain ⟨h1, h2⟩ := bw_kb h
  rw [bw_cells_at h1, bw_cell_1 h2]
theorem bw_cell2 {μ : bwM} {o : Nat} (h : (Nat.blt o 53 && Nat.beq (bw_kd o) 2) = true) : (bw_cells ad cI cJ cZ μ)[o]? = some (ad o, .inl (cJ, bw_len o, .inr (.inl (μ.2 o)))) := by
  obtain ⟨h1, h2⟩ := bw_kb h
  rw [bw_cells_at h1, bw_cell_2 h2]
theorem bw_cell3 {μ : bwM} {o : Nat} (h : (Nat.blt o 53 && Nat.beq (bw_kd o) 3) = true) : (bw_cells ad cI cJ cZ μ)[o]? = some (ad o, .inl (cZ, bw_len o, .inl (μ.1 o))) := by
  obtain ⟨h1, h2⟩ := bw_kb h
  rw [bw_cells_at h1, bw_cell_3 h2]
theorem bw_set1 {μ : bwM} {o j : Nat} {x : Int32} (h : (Nat.blt o 53 && Nat.beq (bw_kd o) 1) = true) : (bw_cells ad cI cJ cZ μ).set o (ad o, .inl (cI, bw_len o, .inl (upd (μ.1 o) j x))) = bw_cells ad cI cJ cZ (bw_si μ o j x) := by
  obtain ⟨h1, h2⟩ := bw_kb h
  refine bw_cells_set ?_ bw_si_ne (fun _ _ => rfl)
  rw [bw_cell_1 h2, bw_si_eq]
theorem bw_set3 {μ : bwM} {o j : Nat} {x : Int32} (h : (Nat.blt o 53 && Nat.beq (bw_kd o) 3) = true) : (bw_cells ad cI cJ cZ μ).set o (ad o, .inl (cZ, bw_len o, .inl (upd (μ.1 o) j x))) = bw_cells ad cI cJ cZ (bw_si μ o j x) := by
  obtain ⟨h1, h2⟩ := bw_kb h
  refine bw_cells_set ?_ bw_si_ne (fun _ _ => rfl)
  rw [bw_cell_3 h2, bw_si_eq]
theorem bw_set2 {μ : bwM} {o j : Nat} {x : Int64} (h : (Nat.blt o 53 && Nat.beq (bw_kd o) 2) = true) : (bw_cells ad cI cJ cZ μ).set o (ad o, .inl (cJ, bw_len o, .inr (.inl (vp_updL (μ.2 o) j x)))) = bw_cells ad cI cJ cZ (bw_sl μ o j x) := by
  obtain ⟨h1, h2⟩ := bw_kb h
  refine bw_cells_set ?_ (fun _ _ => rfl) bw_sl_ne
  rw [bw_cell_2 h2, bw_sl_eq]
theorem bw_setC {μ : bwM} {o1 o2 sp dp n : Nat} (h : (Nat.blt o2 53 && Nat.beq (bw_kd o2) 1) = true) : (bw_cells ad cI cJ cZ μ).set o2 (ad o2, .inl (cI, bw_len o2, .inl (va_cpy (μ.1 o1) (μ.1 o2) sp dp n))) = bw_cells ad cI cJ cZ (bw_cp μ o1 o2 sp dp n) := by
  obtain ⟨h1, h2⟩ := bw_kb h
  refine bw_cells_set ?_ (fun o' ho => ?_) (fun _ _ => rfl)
  · rw [bw_cell_1 h2]
    have : (bw_cp μ o1 o2 sp dp n).1 o2 = va_cpy (μ.1 o1) (μ.1 o2) sp dp n := by funext k; simp [bw_cp, va_cpy]
    rw [this]
  · funext k; simp [bw_cp, ho]
theorem bw_nneg {x : Int32} (h : 0 ≤ x) : ¬ x < 0 := by
  rw [Int32.lt_iff_toInt_lt]
  rw [Int32.le_iff_toInt_le] at h
  omega
end SOUND
