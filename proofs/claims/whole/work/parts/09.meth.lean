/-! EVERY METHOD'S CONTRACT, at every depth. -/
section SOUND
variable {p : Program} {l : Launch} {e : Env} {R : Room} {s : State} {m : MethodId} {args : Array Value} {below : List Frame} {meth : Method} {c : Code} {cs ss : Nat} {Q : State → Prop}
variable {ad : Nat → Nat} {D : va_G} {cI cJ cZ : ClassId} {A : Nat → Prop} {H0 : Heap} {cc : ByteArray} {nL own : Nat} {d : Nat}
theorem bw_sound_run {sl : Nat} {sx : Nat → Int32} {rt : Nat} {t : List bwE} {ρ : bwR}
    (hC : bw_Cx p s m args c own cc nL D cI cJ cZ A H0) (hCS : bw_CS l ad D cI cJ cZ d) (hfr : d + 1 ≤ R.frames) (hlo : d * 64 + 64 ≤ R.locals) (hcs : cs ≤ R.cells ∧ ss ≤ R.slots) (hSc : bw_Sc ad A s H0 sl sx)
    (hri : ∀ (x : Int32) (μ : bwM) (pc : Nat) (ls : List (Option bwV)), decode cc pc = .ok (.ireturn, 1) → (rt = 1 ∨ rt = 3 ∧ (x = 0 ∨ x = 1)) → (some (.inl x), μ) = ρ → bw_W p l e R s m args below meth c cs ss Q ad D cI cJ cZ A H0 nL pc ls [.inl x] μ)
    (hrl : ∀ (x : Int64) (μ : bwM) (pc : Nat) (ls : List (Option bwV)), decode cc pc = .ok (.lreturn, 1) → rt = 2 → (some (.inr (.inl x)), μ) = ρ → bw_W p l e R s m args below meth c cs ss Q ad D cI cJ cZ A H0 nL pc ls [.inr (.inl x)] μ)
    (hrv : ∀ (μ : bwM) (pc : Nat) (ls : List (Option bwV)), decode cc pc = .ok (.return_, 1) → rt = 0 → (none, μ) = ρ → bw_W p l e R s m args below meth c cs ss Q ad D cI cJ cZ A H0 nL pc ls [] μ)
    (hT : bw_okT own cc nL t = true) : ∀ (n pc : Nat) (ls : List (Option bwV)) (st : List bwV) (μ : bwM), bw_run (bw_call d) sl sx rt t n pc ls st μ = some ρ → bw_W p l e R s m args below meth c cs ss Q ad D cI cJ cZ A H0 nL pc ls st μ := by
  intro n
  induction n with
  | zero => intro pc ls st μ h; cases h
  | succ n ih =>
    intro pc ls st μ h
    unfold bw_run at h
    cases hf : bw_find t pc with
    | none => rw [hf] at h; cases h
    | some q =>
      obtain ⟨h1, h2⟩ := bw_find_use _ _ _ hf
      have h3 := List.all_eq_true.mp hT q h1
      obtain ⟨p0, ins, len, v, a, b, fg, sw⟩ := q
      rw [hf] at h
      dsimp only at h h2 h3
      subst h2
      obtain ⟨h4, h5⟩ := be_and h3
      have h4 := of_decide_eq_true h4
      have hW : bw_W p l e R s m args below meth c cs ss Q ad D cI cJ cZ A H0 nL p0 (bw_forget fg ls) st μ := by
        refine bw_sound (Ret := fun x => x = ρ) (sl := sl) (sx := sx) (rt := rt) hC hCS hfr hlo hcs hSc hri hrl hrv h4 h5 ?_
        rcases bw_shape (bw_call d) sl sx rt ins len v a b sw p0 (bw_forget fg ls) st μ with ⟨c, hc⟩ | hc | ⟨pc', ls', st', μ', hc⟩ <;> dsimp only at hc
        · rw [hc] at h ⊢; exact Option.some.inj h
        · rw [hc] at h; cases h
        · rw [hc] at h ⊢; exact ih _ _ _ _ h
      intro H locs lsA hP hD hS hl
      exact hW H locs lsA hP hD hS (bw_lv_forget fg ls hl)
end SOUND
theorem bw_narz {x : Int32} (h : x = 0 ∨ x = 1) : narrow .boolean (.int x) = .int x := by
  rcases h with rfl | rfl <;> decide +kernel
set_option maxHeartbeats 1000000 in
set_option maxRecDepth 20000 in
theorem bw_CS_all (l : Launch) (ad : Nat → Nat) (D : va_G) (cI cJ cZ : ClassId) : ∀ d : Nat, bw_CS l ad D cI cJ cZ d := by
  intro d
  induction d with
  | zero => intro m as μ r μ' h; cases h
  | succ d ih =>
    intro m as μ r μ' h g hg sz
    unfold bw_call at h
    rw [hg] at h
    obtain ⟨cn, y, bytes, mx, rt, sc, na⟩ := g
    dsimp only at h
    cases ht : bw_nth bw_tabs m with
    | none => rw [ht] at h; cases h
    | some t =>
      rw [ht] at h
      dsimp only at h
      cases hw : Nat.ble (bw_wd as) mx with
      | false => rw [hw] at h; cases h
      | true =>
        rw [hw] at h
        have h : bw_ex (bw_call d) 0 bw_z rt t 0 (bw_loc as mx) [] μ = some (r, μ') := h
        obtain ⟨n, hn⟩ := bw_ex_iff.mp h
        have hT := bw_okA_use _ _ _ _ _ bw_tabs_ok hg ht
        obtain ⟨p0, hp0⟩ := bw_okGs_use _ _ _ _ bw_sg_ok hg
        obtain ⟨hp1, -⟩ := be_and hp0
        obtain ⟨hp1, -⟩ := be_and hp1
        obtain ⟨hp1, -⟩ := be_and hp1
        obtain ⟨hp1, -⟩ := be_and hp1
        obtain ⟨w1, w2⟩ := be_and hp1
        have w1 := of_decide_eq_true w1
        dsimp only at w1 w2
        refine Met.ofW (cc := bytes) (maxL := mx) (ret := bw_ret rt) w2 rfl ?_
        intro p e s m args below meth c s₁ B hml hv
        obtain ⟨rfl, hsz, hP, hK, hD0, hN⟩ := hv
        have hx := B.exec
        have hb := B.bytes
        have hr := B.returns
        have hts := atoms_spec (ws := bw_cw (cn, y, bytes, mx, rt, sc, na) :: bw_ws) B.pre
        have hown : s.vm.findClass y.cls = some m.cls := findClass_of_methodNamed B.named
        have hlocks := B.notSynchronized
        subst hsz
        have hD := hD0.self (sz := s.heap.size)
        have hA : ∀ q : Nat, s.heap.size ≤ q → va_A (bw_cells ad cI cJ cZ μ) s.heap.size q := fun q h => Or.inr h
        generalize va_A (bw_cells ad cI cJ cZ μ) s.heap.size = A at hD hA ⊢
        have hS : va_S A s.heap s.heap [] := va_S.rf
        have hl := lv_entry (as.map (bw_cv ad)) (n := mx) (by rw [bw_wd_sl]; exact Nat.le_of_ble_eq_true hw)
        rw [lg_entry_eq]
        generalize (lg_sl (as.map (bw_cv ad)) ++ List.replicate (mx - (lg_sl (as.map (bw_cv ad))).length) Slot.unset).toArray = ls at hl ⊢
        have hl2 : lv_has ls mx (bw_lv ad 0 (bw_loc as mx)) := ⟨hl.1, hl.2.1, fun q hq => hl.2.2 q (by
          obtain ⟨j, v, h1, rfl⟩ := (bw_lv_mem _ _).mp hq
          exact bw_loc_args mx as 0 j v h1)⟩
        have hC : bw_Cx p s m (as.map (bw_cv ad)).toArray c cn bytes mx D cI cJ cZ A s.heap := ⟨hx, hb, hml, by rw [← w1]; exact hown, fun w hw => hts w (List.mem_cons.mpr (Or.inr hw)), hK, hA, hN⟩
        refine bw_sound_run (own := cn) (cc := bytes) (ρ := (r, μ')) (R := bw_rm (d + 1)) (sl := 0) (sx := bw_z) (rt := rt) (Q := MQ below (bw_Post ad D cI cJ cZ r μ' A) (as.map (bw_cv ad)).toArray s 0 0 A) hC ih (Nat.le_refl _) (by show d * 64 + 64 ≤ (d + 1) * 64; omega) ⟨Nat.zero_le _, Nat.zero_le _⟩ (Or.inl rfl) ?_ ?_ ?_ hT n 0 (bw_loc as mx) [] μ hn s.heap [] ls hP hD hS hl2
        · intro x ν pc ls2 hd hrt hρ
          cases hρ
          intro H locs lsA hP1 hD1 hS1 hl1
          have hq : ∀ t : State, t.heap = H → s.WarmedH t.vm → bw_Post ad D cI cJ cZ (some (.inl x)) μ' A (as.map (bw_cv ad)).toArray s (.returned (some (.int x))) t := fun t ht hW => ⟨⟨x, μ', rfl, ⟨rfl, rfl⟩, by rw [ht]; exact hP1, va_K.moved hW.alike hK, hD1⟩, hS1.F ht⟩
          rcases hrt with e1 | ⟨e1, e2⟩
          · subst e1
            exact W.iret hx hb hr hq hS1.2.2 hd
          · subst e1
            exact W.zret hx hb hr (bw_narz e2) hq hS1.2.2 hd
        · intro x ν pc ls2 hd hrt hρ
          cases hρ
          intro H locs lsA hP1 hD1 hS1 hl1
          have hq : ∀ t : State, t.heap = H → s.WarmedH t.vm → bw_Post ad D cI cJ cZ (some (.inr (.inl x))) μ' A (as.map (bw_cv ad)).toArray s (.returned (some (.long x))) t := fun t ht hW => ⟨⟨x, μ', rfl, ⟨rfl, rfl⟩, by rw [ht]; exact hP1, va_K.moved hW.alike hK, hD1⟩, hS1.F ht⟩
          subst hrt
          exact W.lret hx hb hr hq hS1.2.2 hd
        · intro ν pc ls2 hd hrt hρ
          cases hρ
          intro H locs lsA hP1 hD1 hS1 hl1
          have hq : ∀ t : State, t.heap = H → s.WarmedH t.vm → bw_Post ad D cI cJ cZ none μ' A (as.map (bw_cv ad)).toArray s (.returned none) t := fun t ht hW => ⟨⟨μ', rfl, rfl, by rw [ht]; exact hP1, va_K.moved hW.alike hK, hD1⟩, hS1.F ht⟩
          subst hrt
          exact W.vret hx hb hr hq hS1.2.2 hd
