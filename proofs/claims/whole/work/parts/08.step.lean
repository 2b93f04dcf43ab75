section SOUND
variable {p : Program} {l : Launch} {e : Env} {R : Room} {s : State} {m : MethodId} {args : Array Value} {below : List Frame} {meth : Method} {c : Code} {cs ss : Nat} {Q : State → Prop}
variable {ad : Nat → Nat} {D : va_G} {cI cJ cZ : ClassId} {A : Nat → Prop} {H0 : Heap} {cc : ByteArray} {nL own : Nat} {d : Nat}
theorem be_and {a b : Bool} (h : (a && b) = true) : a = true ∧ b = true := by
  cases a
  · cases h
  · exact ⟨rfl, h⟩
set_option maxHeartbeats 8000000 in
set_option maxRecDepth 100000 in
/-- ONE STEP -/
theorem bw_sound {pc : Nat} {ins : Instr} {len : Nat} {v : Int32} {a b : Nat} {sw : List (Int32 × Nat)} {ls : List (Option bwV)} {st : List bwV} {μ : bwM} {sl : Nat} {sx : Nat → Int32} {rt : Nat} {Ret : bwR → Prop}
    (hC : bw_Cx p s m args c own cc nL D cI cJ cZ A H0) (hCS : bw_CS l ad D cI cJ cZ d) (hfr : d + 1 ≤ R.frames) (hlo : d * 64 + 64 ≤ R.locals) (hcs : cs ≤ R.cells ∧ ss ≤ R.slots) (hSc : bw_Sc ad A s H0 sl sx)
    (hri : ∀ (x : Int32) (μ : bwM) (pc : Nat) (ls : List (Option bwV)), decode cc pc = .ok (.ireturn, 1) → (rt = 1 ∨ rt = 3 ∧ (x = 0 ∨ x = 1)) → Ret (some (.inl x), μ) → bw_W p l e R s m args below meth c cs ss Q ad D cI cJ cZ A H0 nL pc ls [.inl x] μ)
    (hrl : ∀ (x : Int64) (μ : bwM) (pc : Nat) (ls : List (Option bwV)), decode cc pc = .ok (.lreturn, 1) → rt = 2 → Ret (some (.inr (.inl x)), μ) → bw_W p l e R s m args below meth c cs ss Q ad D cI cJ cZ A H0 nL pc ls [.inr (.inl x)] μ)
    (hrv : ∀ (μ : bwM) (pc : Nat) (ls : List (Option bwV)), decode cc pc = .ok (.return_, 1) → rt = 0 → Ret (none, μ) → bw_W p l e R s m args below meth c cs ss Q ad D cI cJ cZ A H0 nL pc ls [] μ)
    (hdg : decode cc pc = .ok (ins, len)) (ok : bw_okI own nL pc ins len v a b sw = true)
    (h : bw_step (β := Prop) (bw_call d) sl sx rt ins len v a b sw pc ls st μ Ret False (bw_W p l e R s m args below meth c cs ss Q ad D cI cJ cZ A H0 nL)) :
    bw_W p l e R s m args below meth c cs ss Q ad D cI cJ cZ A H0 nL pc ls st μ := by
  obtain ⟨hx, hb, hml, hown, hts, hK, hA, hN⟩ := id hC
  unfold bw_step at h
  split at h
  -- iconst
  · rename_i n
    have ok : (decide (Int32.ofInt n = v) && Nat.beq len 1) = true := ok
    obtain ⟨o1, o2⟩ := be_and ok
    have o1 := of_decide_eq_true o1
    have o2 := bw_beq o2
    subst o2
    intro H locs lsA hP hD hS hl
    exact lv_iconst hx hb hdg o1 (h H locs lsA hP hD hS hl)
  -- bipush
  · rename_i n
    have ok : (decide ((Int8.ofInt n).toInt32 = v) && Nat.beq len 2) = true := ok
    obtain ⟨o1, o2⟩ := be_and ok
    have o1 := of_decide_eq_true o1
    have o2 := bw_beq o2
    subst o2
    intro H locs lsA hP hD hS hl
    exact lv_bipush hx hb hdg o1 (h H locs lsA hP hD hS hl)
  -- sipush
  · rename_i n
    have ok : (decide ((Int16.ofInt n).toInt32 = v) && Nat.beq len 3) = true := ok
    obtain ⟨o1, o2⟩ := be_and ok
    have o1 := of_decide_eq_true o1
    have o2 := bw_beq o2
    subst o2
    intro H locs lsA hP hD hS hl
    exact lv_sipush hx hb hdg o1 (h H locs lsA hP hD hS hl)
  -- lconst
  · rename_i n
    have ok : (Nat.beq a n.val && Nat.beq len 1) = true := ok
    obtain ⟨o1, o2⟩ := be_and ok
    have o1 := bw_beq o1
    have o2 := bw_beq o2
    subst o2
    subst o1
    intro H locs lsA hP hD hS hl
    exact lv_lconst hx hb hdg rfl (h H locs lsA hP hD hS hl)
  -- ldc2_w
  · rename_i n
    have ok : (Nat.beq len 3 && bw_cl.any fun q => Nat.beq q.1 own && Nat.beq q.2.1 n && Nat.beq q.2.2.1 a) = true := ok
    obtain ⟨o1, o2⟩ := be_and ok
    have o1 := bw_beq o1
    subst o1
    obtain ⟨q, hq, h1⟩ := List.any_eq_true.mp o2
    simp only [Bool.and_eq_true] at h1
    have h5 := of_decide_eq_true (List.all_eq_true.mp bw_cl_tbl q hq)
    rw [bw_beq h1.1.1, bw_beq h1.1.2, bw_beq h1.2] at h5
    intro H locs lsA hP hD hS hl
    exact lv_ldc2 hx hb hown (hts _ (bw_gd (List.mem_of_getElem? h5) rfl)) hdg (h H locs lsA hP hD hS hl)
  -- iload_n
  · rename_i n
    have ok : (Nat.beq a n.val && Nat.beq len 1) = true := ok
    obtain ⟨o1, o2⟩ := be_and ok
    have o2 := bw_beq o2
    subst o2
    obtain ⟨w, g1, h1⟩ := be_lk h
    obtain ⟨x, g2, h2⟩ := be_gI h1
    subst g2
    intro H locs lsA hP hD hS hl
    exact lv_iload_n hx hb hdg (bw_beq o1).symm (bw_lv_at hl g1) (h2 H locs lsA hP hD hS hl)
  -- iload
  · rename_i n
    have ok : (Nat.beq a n && Nat.beq len 2) = true := ok
    obtain ⟨o1, o2⟩ := be_and ok
    have o2 := bw_beq o2
    have o1 := bw_beq o1
    subst o2
    subst o1
    obtain ⟨w, g1, h1⟩ := be_lk h
    obtain ⟨x, g2, h2⟩ := be_gI h1
    subst g2
    intro H locs lsA hP hD hS hl
    exact lv_iload hx hb hdg (bw_lv_at hl g1) (h2 H locs lsA hP hD hS hl)
  -- lload_n
  · rename_i n
    have ok : (Nat.beq a n.val && Nat.beq len 1) = true := ok
    obtain ⟨o1, o2⟩ := be_and ok
    have o2 := bw_beq o2
    subst o2
    obtain ⟨w, g1, h1⟩ := be_lk h
    obtain ⟨x, g2, h2⟩ := be_gL h1
    subst g2
    intro H locs lsA hP hD hS hl
    exact lv_lload_n hx hb hdg (bw_beq o1).symm (bw_lv_at hl g1) (h2 H locs lsA hP hD hS hl)
  -- lload
  · rename_i n
    have ok : (Nat.beq a n && Nat.beq len 2) = true := ok
    obtain ⟨o1, o2⟩ := be_and ok
    have o2 := bw_beq o2
    have o1 := bw_beq o1
    subst o2
    subst o1
    obtain ⟨w, g1, h1⟩ := be_lk h
    obtain ⟨x, g2, h2⟩ := be_gL h1
    subst g2
    intro H locs lsA hP hD hS hl
    exact lv_lload hx hb hdg (bw_lv_at hl g1) (h2 H locs lsA hP hD hS hl)
  -- aload_n
  · rename_i n
    have ok : (Nat.beq a n.val && Nat.beq len 1) = true := ok
    obtain ⟨o1, o2⟩ := be_and ok
    have o2 := bw_beq o2
    subst o2
    obtain ⟨w, g1, h1⟩ := be_lk h
    obtain ⟨x, g2, h2⟩ := be_gR h1
    subst g2
    intro H locs lsA hP hD hS hl
    exact lv_aload_n hx hb hdg (bw_beq o1).symm (bw_lv_at hl g1) (h2 H locs lsA hP hD hS hl)
  -- aload
  · rename_i n
    have ok : (Nat.beq a n && Nat.beq len 2) = true := ok
    obtain ⟨o1, o2⟩ := be_and ok
    have o2 := bw_beq o2
    have o1 := bw_beq o1
    subst o2
    subst o1
    obtain ⟨w, g1, h1⟩ := be_lk h
    obtain ⟨x, g2, h2⟩ := be_gR h1
    subst g2
    intro H locs lsA hP hD hS hl
    exact lv_aload hx hb hdg (bw_lv_at hl g1) (h2 H locs lsA hP hD hS hl)
  -- istore_n
  · rename_i n
    have ok : (Nat.beq a n.val && Nat.beq len 1 && Nat.blt a nL) = true := ok
    obtain ⟨o0, o3⟩ := be_and ok
    obtain ⟨o1, o2⟩ := be_and o0
    clear ok o0
    have o2 := bw_beq o2
    subst o2
    obtain ⟨x, r, g1, h1⟩ := be_i1 h
    subst g1
    intro H locs lsA hP hD hS hl
    exact lv_istore_n hx hb hdg (bw_beq o1).symm hl (Nat.le_of_ble_eq_true o3) rfl (fun ls' hl' => h1 H locs ls' hP hD hS (bw_lv_put (v := .inl x) hl'))
  -- istore
  · rename_i n
    have ok : (Nat.beq a n && Nat.beq len 2 && Nat.blt a nL) = true := ok
    obtain ⟨o0, o3⟩ := be_and ok
    obtain ⟨o1, o2⟩ := be_and o0
    clear ok o0
    have o2 := bw_beq o2
    have o1 := bw_beq o1
    subst o2
    subst o1
    obtain ⟨x, r, g1, h1⟩ := be_i1 h
    subst g1
    intro H locs lsA hP hD hS hl
    exact lv_istore hx hb hdg hl (Nat.le_of_ble_eq_true o3) rfl (fun ls' hl' => h1 H locs ls' hP hD hS (bw_lv_put (v := .inl x) hl'))
  -- lstore_n
  · rename_i n
    have ok : (Nat.beq a n.val && Nat.beq len 1 && Nat.blt (a + 1) nL) = true := ok
    obtain ⟨o0, o3⟩ := be_and ok
    obtain ⟨o1, o2⟩ := be_and o0
    clear ok o0
    have o2 := bw_beq o2
    subst o2
    obtain ⟨x, r, g1, h1⟩ := be_l1 h
    subst g1
    intro H locs lsA hP hD hS hl
    exact lv_lstore_n hx hb hdg (bw_beq o1).symm hl (Nat.le_of_ble_eq_true o3) rfl (fun ls' hl' => h1 H locs ls' hP hD hS (bw_lv_putL hl'))
  -- lstore
  · rename_i n
    have ok : (Nat.beq a n && Nat.beq len 2 && Nat.blt (a + 1) nL) = true := ok
    obtain ⟨o0, o3⟩ := be_and ok
    obtain ⟨o1, o2⟩ := be_and o0
    clear ok o0
    have o2 := bw_beq o2
    have o1 := bw_beq o1
    subst o2
    subst o1
    obtain ⟨x, r, g1, h1⟩ := be_l1 h
    subst g1
    intro H locs lsA hP hD hS hl
    exact lv_lstore hx hb hdg hl (Nat.le_of_ble_eq_true o3) rfl (fun ls' hl' => h1 H locs ls' hP hD hS (bw_lv_putL hl'))
  -- iinc
  · rename_i n k
    have ok : (Nat.beq a n && decide (Int32.ofInt k = v) && Nat.beq len 3 && Nat.blt a nL) = true := ok
    obtain ⟨o8, o4⟩ := be_and ok
    obtain ⟨o9, o3⟩ := be_and o8
    obtain ⟨o1, o2⟩ := be_and o9
    clear ok o8 o9
    have o3 := bw_beq o3
    have o1 := bw_beq o1
    have o2 := of_decide_eq_true o2
    subst o3
    subst o1
    obtain ⟨w, g1, h1⟩ := be_lk h
    obtain ⟨x, g2, h2⟩ := be_gI h1
    subst g2
    intro H locs lsA hP hD hS hl
    obtain ⟨kk, hkk⟩ := List.getElem?_of_mem ((bw_lv_mem (ad := ad) (q := (a, bw_cv ad (.inl x))) ls 0).mpr ⟨a, .inl x, g1, by rw [Nat.zero_add]⟩)
    exact lv_iinc hx hb hdg hl hkk (by rw [o2]) (Nat.le_of_ble_eq_true o4) rfl (fun ls' hl' => h2 H locs ls' hP hD hS (bw_lv_put (v := .inl (x + v)) hl'))
  -- iadd
  · have o2 := bw_beq (show Nat.beq len 1 = true from ok)
    subst o2
    obtain ⟨x, y, r, g1, h1⟩ := be_i2 h
    subst g1
    intro H locs lsA hP hD hS hl
    exact lv_iadd hx hb hdg (h1 H locs lsA hP hD hS hl)
  -- isub
  · have o2 := bw_beq (show Nat.beq len 1 = true from ok)
    subst o2
    obtain ⟨x, y, r, g1, h1⟩ := be_i2 h
    subst g1
    intro H locs lsA hP hD hS hl
    exact lv_isub hx hb hdg (h1 H locs lsA hP hD hS hl)
  -- imul
  · have o2 := bw_beq (show Nat.beq len 1 = true from ok)
    subst o2
    obtain ⟨x, y, r, g1, h1⟩ := be_i2 h
    subst g1
    intro H locs lsA hP hD hS hl
    exact lv_imul hx hb hdg (h1 H locs lsA hP hD hS hl)
  -- irem
  · have o2 := bw_beq (show Nat.beq len 1 = true from ok)
    subst o2
    obtain ⟨x, y, r, g1, h1⟩ := be_i2 h
    obtain ⟨hne, h2⟩ := be_ifn h1
    subst g1
    intro H locs lsA hP hD hS hl
    exact lv_irem hx hb hdg hne (h2 H locs lsA hP hD hS hl)
  -- ior
  · have o2 := bw_beq (show Nat.beq len 1 = true from ok)
    subst o2
    obtain ⟨x, y, r, g1, h1⟩ := be_i2 h
    subst g1
    intro H locs lsA hP hD hS hl
    exact lv_ior hx hb hdg (h1 H locs lsA hP hD hS hl)
  -- iand
  · have o2 := bw_beq (show Nat.beq len 1 = true from ok)
    subst o2
    obtain ⟨x, y, r, g1, h1⟩ := be_i2 h
    subst g1
    intro H locs lsA hP hD hS hl
    exact lv_iand hx hb hdg (h1 H locs lsA hP hD hS hl)
  -- ixor
  · have o2 := bw_beq (show Nat.beq len 1 = true from ok)
    subst o2
    obtain ⟨x, y, r, g1, h1⟩ := be_i2 h
    subst g1
    intro H locs lsA hP hD hS hl
    exact lv_ixor hx hb hdg (h1 H locs lsA hP hD hS hl)
  -- ishl
  · have o2 := bw_beq (show Nat.beq len 1 = true from ok)
    subst o2
    obtain ⟨x, y, r, g1, h1⟩ := be_i2 h
    subst g1
    intro H locs lsA hP hD hS hl
    exact lv_ishl hx hb hdg (h1 H locs lsA hP hD hS hl)
  -- ishr
  · have o2 := bw_beq (show Nat.beq len 1 = true from ok)
    subst o2
    obtain ⟨x, y, r, g1, h1⟩ := be_i2 h
    subst g1
    intro H locs lsA hP hD hS hl
    exact lv_ishr hx hb hdg (h1 H locs lsA hP hD hS hl)
  -- ladd
  · have o2 := bw_beq (show Nat.beq len 1 = true from ok)
    subst o2
    obtain ⟨x, y, r, g1, h1⟩ := be_l2 h
    subst g1
    intro H locs lsA hP hD hS hl
    exact lv_ladd hx hb hdg (h1 H locs lsA hP hD hS hl)
  -- lsub
  · have o2 := bw_beq (show Nat.beq len 1 = true from ok)
    subst o2
    obtain ⟨x, y, r, g1, h1⟩ := be_l2 h
    subst g1
    intro H locs lsA hP hD hS hl
    exact lv_lsub hx hb hdg (h1 H locs lsA hP hD hS hl)
  -- lmul
  · have o2 := bw_beq (show Nat.beq len 1 = true from ok)
    subst o2
    obtain ⟨x, y, r, g1, h1⟩ := be_l2 h
    subst g1
    intro H locs lsA hP hD hS hl
    exact lv_lmul hx hb hdg (h1 H locs lsA hP hD hS hl)
  -- ldiv
  · have o2 := bw_beq (show Nat.beq len 1 = true from ok)
    subst o2
    obtain ⟨x, y, r, g1, h1⟩ := be_l2 h
    obtain ⟨hne, h2⟩ := be_ifn h1
    subst g1
    intro H locs lsA hP hD hS hl
    exact lv_ldiv hx hb hdg hne (h2 H locs lsA hP hD hS hl)
  -- lrem
  · have o2 := bw_beq (show Nat.beq len 1 = true from ok)
    subst o2
    obtain ⟨x, y, r, g1, h1⟩ := be_l2 h
    obtain ⟨hne, h2⟩ := be_ifn h1
    subst g1
    intro H locs lsA hP hD hS hl
    exact lv_lrem hx hb hdg hne (h2 H locs lsA hP hD hS hl)
  -- lneg
  · have o2 := bw_beq (show Nat.beq len 1 = true from ok)
    subst o2
    obtain ⟨x, r, g1, h1⟩ := be_l1 h
    subst g1
    intro H locs lsA hP hD hS hl
    exact lv_lneg hx hb hdg (h1 H locs lsA hP hD hS hl)
  -- i2l
  · have o2 := bw_beq (show Nat.beq len 1 = true from ok)
    subst o2
    obtain ⟨x, r, g1, h1⟩ := be_i1 h
    subst g1
    intro H locs lsA hP hD hS hl
    exact lv_i2l hx hb hdg rfl (h1 H locs lsA hP hD hS hl)
  -- lcmp
  · have o2 := bw_beq (show Nat.beq len 1 = true from ok)
    subst o2
    obtain ⟨x, y, r, g1, h1⟩ := be_l2 h
    subst g1
    intro H locs lsA hP hD hS hl
    exact W.lcmp hx hb hdg (h1 H locs lsA hP hD hS hl)
  -- dup
  · have o2 := bw_beq (show Nat.beq len 1 = true from ok)
    subst o2
    obtain ⟨x, r, g1, h1⟩ := be_pp h
    obtain ⟨hL, h2⟩ := be_bn h1
    subst g1
    intro H locs lsA hP hD hS hl
    exact lv_dup hx hb hdg (by rcases x with x | x | x <;> first | rfl | cases hL) (h2 H locs lsA hP hD hS hl)
  -- dup2
  · have o2 := bw_beq (show Nat.beq len 1 = true from ok)
    subst o2
    obtain ⟨x, r0, g0, h0⟩ := be_pp h
    obtain ⟨y, r, g1, h1⟩ := be_pp h0
    obtain ⟨hL, h2⟩ := be_bn h1
    subst g1
    subst g0
    have hL1 : bw_isL x = false := by cases hq : bw_isL x with
      | false => rfl
      | true => rw [hq] at hL; cases hL
    have hL2 : bw_isL y = false := by rw [hL1] at hL; exact hL
    intro H locs lsA hP hD hS hl
    exact lv_dup2_11 hx hb hdg (by rcases x with x | x | x <;> first | rfl | cases hL1) (by rcases y with x | x | x <;> first | rfl | cases hL2) (h2 H locs lsA hP hD hS hl)
  -- goto
  · rename_i off
    have ok : (decide ((pc : Int) + off = (a : Int)) && Nat.beq len 3) = true := ok
    obtain ⟨o1, o2⟩ := be_and ok
    have o2 := bw_beq o2
    subst o2
    intro H locs lsA hP hD hS hl
    exact lv_goto hx hb hdg (of_decide_eq_true o1) (h H locs lsA hP hD hS hl)
  -- ifCond
  · rename_i co off
    have ok : (decide ((pc : Int) + off = (a : Int)) && Nat.beq len 3) = true := ok
    obtain ⟨o1, o2⟩ := be_and ok
    have o2 := bw_beq o2
    have o1 := of_decide_eq_true o1
    clear ok
    subst o2
    split at h
    · obtain ⟨x, r, g1, h1⟩ := be_i1 h
      subst g1
      intro H locs lsA hP hD hS hl
      exact lv_if_eq hx hb hdg o1 (fun hc => (be_t h1 hc) H locs lsA hP hD hS hl) (fun hc => (be_f h1 hc) H locs lsA hP hD hS hl)
    · obtain ⟨x, r, g1, h1⟩ := be_i1 h
      subst g1
      intro H locs lsA hP hD hS hl
      exact lv_if_ne hx hb hdg o1 (fun hc => (be_f h1 hc) H locs lsA hP hD hS hl) (fun hc => (be_t h1 hc) H locs lsA hP hD hS hl)
    · obtain ⟨x, r, g1, h1⟩ := be_i1 h
      subst g1
      intro H locs lsA hP hD hS hl
      exact lv_if_lt hx hb hdg o1 (fun hc => (be_t h1 hc) H locs lsA hP hD hS hl) (fun hc => (be_f h1 hc) H locs lsA hP hD hS hl)
    · obtain ⟨x, r, g1, h1⟩ := be_i1 h
      subst g1
      intro H locs lsA hP hD hS hl
      exact lv_if_ge hx hb hdg o1 (fun hc => (be_t h1 hc) H locs lsA hP hD hS hl) (fun hc => (be_f h1 hc) H locs lsA hP hD hS hl)
    · obtain ⟨x, r, g1, h1⟩ := be_i1 h
      subst g1
      intro H locs lsA hP hD hS hl
      exact lv_if_gt hx hb hdg o1 (fun hc => (be_t h1 hc) H locs lsA hP hD hS hl) (fun hc => (be_f h1 hc) H locs lsA hP hD hS hl)
    · obtain ⟨x, r, g1, h1⟩ := be_i1 h
      subst g1
      intro H locs lsA hP hD hS hl
      exact lv_if_le hx hb hdg o1 (fun hc => (be_t h1 hc) H locs lsA hP hD hS hl) (fun hc => (be_f h1 hc) H locs lsA hP hD hS hl)
  -- if_icmp
  · rename_i co off
    have ok : (decide ((pc : Int) + off = (a : Int)) && Nat.beq len 3) = true := ok
    obtain ⟨o1, o2⟩ := be_and ok
    have o2 := bw_beq o2
    have o1 := of_decide_eq_true o1
    clear ok
    subst o2
    split at h
    · obtain ⟨x, y, r, g1, h1⟩ := be_i2 h
      subst g1
      intro H locs lsA hP hD hS hl
      exact lv_icmp_eq hx hb hdg o1 (fun hc => (be_t h1 hc) H locs lsA hP hD hS hl) (fun hc => (be_f h1 hc) H locs lsA hP hD hS hl)
    · obtain ⟨x, y, r, g1, h1⟩ := be_i2 h
      subst g1
      intro H locs lsA hP hD hS hl
      exact lv_icmp_ne hx hb hdg o1 (fun hc => (be_f h1 hc) H locs lsA hP hD hS hl) (fun hc => (be_t h1 hc) H locs lsA hP hD hS hl)
    · obtain ⟨x, y, r, g1, h1⟩ := be_i2 h
      subst g1
      intro H locs lsA hP hD hS hl
      exact lv_icmp_lt hx hb hdg o1 (fun hc => (be_t h1 hc) H locs lsA hP hD hS hl) (fun hc => (be_f h1 hc) H locs lsA hP hD hS hl)
    · obtain ⟨x, y, r, g1, h1⟩ := be_i2 h
      subst g1
      intro H locs lsA hP hD hS hl
      exact lv_icmp_ge hx hb hdg o1 (fun hc => (be_t h1 hc) H locs lsA hP hD hS hl) (fun hc => (be_f h1 hc) H locs lsA hP hD hS hl)
    · obtain ⟨x, y, r, g1, h1⟩ := be_i2 h
      subst g1
      intro H locs lsA hP hD hS hl
      exact lv_icmp_gt hx hb hdg o1 (fun hc => (be_t h1 hc) H locs lsA hP hD hS hl) (fun hc => (be_f h1 hc) H locs lsA hP hD hS hl)
    · obtain ⟨x, y, r, g1, h1⟩ := be_i2 h
      subst g1
      intro H locs lsA hP hD hS hl
      exact lv_icmp_le hx hb hdg o1 (fun hc => (be_t h1 hc) H locs lsA hP hD hS hl) (fun hc => (be_f h1 hc) H locs lsA hP hD hS hl)
  -- tableswitch
  · rename_i dflt lo hi offs
    have ok : (decide ((pc : Int) + dflt = (a : Int)) && bw_swok pc lo offs.toList sw && decide (lo + (offs.toList.length : Int) = hi + 1)) = true := ok
    obtain ⟨o0, o3⟩ := be_and ok
    obtain ⟨o1, o2⟩ := be_and o0
    have o1 := of_decide_eq_true o1
    have o3 := of_decide_eq_true o3
    obtain ⟨x, r, g1, h1⟩ := be_i1 h
    subst g1
    intro H locs lsA hP hD hS hl
    rcases bw_swgo (ls := ls) (r := r) (μ := μ) offs.toList lo sw o2 h1 with ⟨a1, a2⟩ | ⟨off, t, a1, a2, a3, a4, a5⟩
    · exact lv_tableOut hx hb hdg (by omega) o1 (a1 H locs lsA hP hD hS hl)
    · exact lv_tableIn hx hb hdg (by omega) (by omega) (by rw [← Array.getElem?_toList]; exact a3) a4 (a5 H locs lsA hP hD hS hl)
  -- getfield
  · rename_i n
    have ok : (Nat.beq len 3 && bw_fl.any fun q => Nat.beq q.1 own && Nat.beq q.2.1 n && Nat.beq q.2.2.1 b && Nat.beq q.2.2.2.1 a) = true := ok
    obtain ⟨o1, o2⟩ := be_and ok
    have o1 := bw_beq o1
    subst o1
    exact bw_getf hC hdg o2 h
  -- putfield
  · rename_i n
    have ok : (Nat.beq len 3 && bw_fl.any fun q => Nat.beq q.1 own && Nat.beq q.2.1 n && Nat.beq q.2.2.1 b && Nat.beq q.2.2.2.1 a) = true := ok
    obtain ⟨o1, o2⟩ := be_and ok
    have o1 := bw_beq o1
    subst o1
    exact bw_putf hC hdg o2 h
  -- iaload
  · have o2 := bw_beq (show Nat.beq len 1 = true from ok)
    subst o2
    obtain ⟨i, r0, g0, h0⟩ := be_i1 h
    obtain ⟨o, r, g1, h1⟩ := be_r1 h0
    clear h h0
    subst g1
    subst g0
    intro H locs lsA hP hD hS hl
    cases hq : Nat.beq o 60 with
    | true =>
      rw [hq] at h1
      obtain ⟨h2, h3⟩ := be_if h1
      have e60 := bw_beq hq
      subst e60
      rcases hSc with e | ⟨hX, hbl, hbA⟩
      · rw [e] at h2; exact absurd h2.2 (by omega)
      · exact va_sld hx hb hX hbl hbA hS (bw_in_vp h2) hdg (h3 H locs lsA hP hD hS hl)
    | false =>
      rw [hq] at h1
      obtain ⟨h2, h3⟩ := be_b h1
      obtain ⟨h4, h5⟩ := be_if h3
      exact va_iald hx hb hK hP o 0 (bw_cell1 h2) rfl (bw_in_vp h4) hdg (h5 H locs lsA hP hD hS hl)
  -- laload
  · have o2 := bw_beq (show Nat.beq len 1 = true from ok)
    subst o2
    obtain ⟨i, r0, g0, h0⟩ := be_i1 h
    obtain ⟨o, r, g1, h1⟩ := be_r1 h0
    obtain ⟨h2, h3⟩ := be_b h1
    obtain ⟨h4, h5⟩ := be_if h3
    clear h h0 h1 h3
    subst g1
    subst g0
    intro H locs lsA hP hD hS hl
    exact va_lald hx hb hK hP o 1 (bw_cell2 h2) rfl (bw_in_vp h4) hdg (h5 H locs lsA hP hD hS hl)
  -- baload
  · have o2 := bw_beq (show Nat.beq len 1 = true from ok)
    subst o2
    obtain ⟨i, r0, g0, h0⟩ := be_i1 h
    obtain ⟨o, r, g1, h1⟩ := be_r1 h0
    obtain ⟨h2, h3⟩ := be_b h1
    obtain ⟨h4, h5⟩ := be_if h3
    clear h h0 h1 h3
    subst g1
    subst g0
    intro H locs lsA hP hD hS hl
    exact va_zald hx hb hK hP o 2 (bw_cell3 h2) rfl (bw_in_vp h4) hdg (h5 H locs lsA hP hD hS hl)
  -- iastore
  · have o2 := bw_beq (show Nat.beq len 1 = true from ok)
    subst o2
    obtain ⟨x, r8, g8, h8⟩ := be_i1 h
    obtain ⟨i, r0, g0, h0⟩ := be_i1 h8
    obtain ⟨o, r, g1, h1⟩ := be_r1 h0
    obtain ⟨h2, h3⟩ := be_b h1
    obtain ⟨h4, h5⟩ := be_if h3
    clear h h8 h0 h1 h3
    subst g1
    subst g0
    subst g8
    intro H locs lsA hP hD hS hl
    refine va_iast hx hb hK hP hD hS o 0 (bw_cell1 h2) rfl (bw_in_vp h4) hdg (fun H1 locs1 hP1 hD1 hS1 => ?_)
    rw [bw_set1 h2] at hP1 hD1
    exact h5 H1 locs1 lsA hP1 hD1 hS1 hl
  -- lastore
  · have o2 := bw_beq (show Nat.beq len 1 = true from ok)
    subst o2
    obtain ⟨x, r8, g8, h8⟩ := be_l1 h
    obtain ⟨i, r0, g0, h0⟩ := be_i1 h8
    obtain ⟨o, r, g1, h1⟩ := be_r1 h0
    obtain ⟨h2, h3⟩ := be_b h1
    obtain ⟨h4, h5⟩ := be_if h3
    clear h h8 h0 h1 h3
    subst g1
    subst g0
    subst g8
    intro H locs lsA hP hD hS hl
    refine va_last hx hb hK hP hD hS o 1 (bw_cell2 h2) rfl (bw_in_vp h4) hdg (fun H1 locs1 hP1 hD1 hS1 => ?_)
    rw [bw_set2 h2] at hP1 hD1
    exact h5 H1 locs1 lsA hP1 hD1 hS1 hl
  -- bastore
  · have o2 := bw_beq (show Nat.beq len 1 = true from ok)
    subst o2
    obtain ⟨x, r8, g8, h8⟩ := be_i1 h
    obtain ⟨i, r0, g0, h0⟩ := be_i1 h8
    obtain ⟨o, r, g1, h1⟩ := be_r1 h0
    obtain ⟨h2, h3⟩ := be_b h1
    obtain ⟨h4, h5⟩ := be_if h3
    clear h h8 h0 h1 h3
    subst g1
    subst g0
    subst g8
    intro H locs lsA hP hD hS hl
    refine va_zast hx hb hK hP hD hS o 2 (bw_cell3 h2) rfl (bw_in_vp h4) hdg (fun H1 locs1 hP1 hD1 hS1 => ?_)
    rw [bw_set3 h2] at hP1 hD1
    exact h5 H1 locs1 lsA hP1 hD1 hS1 hl
  -- arraylength
  · have o2 := bw_beq (show Nat.beq len 1 = true from ok)
    subst o2
    obtain ⟨o, r, g1, h1⟩ := be_r1 h
    clear h
    subst g1
    intro H locs lsA hP hD hS hl
    cases hq : Nat.beq o 60 with
    | true =>
      rw [hq] at h1
      obtain ⟨h2, h3⟩ := be_bn h1
      have e60 := bw_beq hq
      subst e60
      rcases hSc with e | ⟨hX, hbl, hbA⟩
      · rw [e] at h2; cases h2
      · exact va_slen hx hb hX hbl hbA hS hdg (h3 H locs lsA hP hD hS hl)
    | false =>
      rw [hq] at h1
      obtain ⟨h2, h3⟩ := be_b h1
      exact va_alen hx hb hK hP o 0 (bw_cell1 h2) rfl rfl hdg (h3 H locs lsA hP hD hS hl)
  -- invokevirtual
  · rename_i n
    have ok : (Nat.beq len 3 && (bw_ml.any fun q => Nat.beq q.1 own && Nat.beq q.2.1 n && Nat.beq q.2.2.1 a && Nat.beq q.2.2.2.1 0) && (match bw_nth bw_sg a with
      | some (cn, _, _, _, rt, sc, na) => Nat.beq sc 0 && Nat.blt cn 5 && Nat.beq b (cn * 1000 + (na + 1) * 10 + rt) && Nat.blt rt 4 && Nat.blt na 10
      | none => false)) = true := ok
    obtain ⟨o0, o3⟩ := be_and ok
    obtain ⟨o1, o2⟩ := be_and o0
    exact bw_inv hC hCS hfr hlo hcs hdg (bw_beq o1) o2 o3 h
  -- invokestatic
  · rename_i n
    have ok : (Nat.beq len 3 && (bif Nat.ble 997 b then (bw_sl3.any fun q => Nat.beq q.1 own && Nat.beq q.2.1 n && Nat.beq q.2.2.1 b) else (bw_ml.any fun q => Nat.beq q.1 own && Nat.beq q.2.1 n && Nat.beq q.2.2.1 a) && (match bw_nth bw_sg a with
      | some (_, _, _, _, rt, sc, na) => Nat.beq sc 1 && Nat.beq b (na * 10 + rt) && Nat.blt rt 4 && Nat.blt na 10
      | none => false))) = true := ok
    obtain ⟨o1, o2⟩ := be_and ok
    have o1 := bw_beq o1
    clear ok
    subst o1
    cases h997 : Nat.ble 997 b with
    | false =>
      rw [h997] at o2
      obtain ⟨o3, o4⟩ := be_and o2
      have hb9 : b < 997 := by
        rcases Nat.lt_or_ge b 997 with q | q
        · exact q
        · rw [Nat.ble_eq_true_of_le q] at h997; cases h997
      have e8 : Nat.beq b 998 = false := by
        cases hq : Nat.beq b 998 with
        | false => rfl
        | true => have := bw_beq hq; omega
      have e7 : Nat.beq b 997 = false := by
        cases hq : Nat.beq b 997 with
        | false => rfl
        | true => have := bw_beq hq; omega
      have e9 : Nat.beq b 999 = false := by
        cases hq : Nat.beq b 999 with
        | false => rfl
        | true => have := bw_beq hq; omega
      rw [e8, e7, e9] at h
      exact bw_inS hC hCS hfr hlo hcs hdg rfl o3 o4 h
    | true =>
      rw [h997] at o2
      obtain ⟨q, hq, hq1⟩ := List.any_eq_true.mp o2
      simp only [Bool.and_eq_true] at hq1
      have h5 := List.all_eq_true.mp bw_sl3_tbl q hq
      rw [bw_beq hq1.1.1, bw_beq hq1.1.2, bw_beq hq1.2] at h5
      obtain ⟨h6, h7⟩ := be_and h5
      obtain ⟨h8, h9⟩ := be_and h6
      have hlk := bw_gd (List.mem_of_getElem? (of_decide_eq_true h7)) rfl
      have b1 : 997 ≤ b := Nat.le_of_ble_eq_true h997
      have b2 : b ≤ 999 := Nat.le_of_ble_eq_true h9
      have sy : ∀ w ∈ bw_sys, goodWord w = true → w.before args s = true := fun w hw hg => hts w (bw_gd (bw_sys_in w hw) hg)
      rcases (show b = 997 ∨ b = 998 ∨ b = 999 by omega) with rfl | rfl | rfl
      · obtain ⟨x, r, g1, h1⟩ := be_l1 (show bw_l1 st False (fun x r => bif Nat.ble (bw_wd r) 8 then bw_W p l e R s m args below meth c cs ss Q ad D cI cJ cZ A H0 nL (pc + 3) ls (.inr (.inl (if 0 < x then x else -x)) :: r) μ else False) from h)
        obtain ⟨h2, h3⟩ := be_b h1
        clear h h1
        subst g1
        intro H locs lsA hP hD hS hl
        refine va_mabs_long hx hb (hml.trans hl.1.symm) hown (hts _ hlk) (sy _ (by simp [bw_sys]) rfl) (sy _ (by simp [bw_sys]) rfl) (sy _ (by simp [bw_sys]) rfl) (by omega) ?_ hcs.1 hcs.2 hdg (h3 H locs lsA hP hD hS hl)
        have := Nat.le_of_ble_eq_true h2
        rw [bw_wd_cat]; omega
      · obtain ⟨x, y, r, g1, h1⟩ := be_i2 (show bw_i2 st False (fun x y r => bif Nat.ble (bw_wd r) 8 then bw_W p l e R s m args below meth c cs ss Q ad D cI cJ cZ A H0 nL (pc + 3) ls (.inl (if y < x then y else x) :: r) μ else False) from h)
        obtain ⟨h2, h3⟩ := be_b h1
        clear h h1
        subst g1
        intro H locs lsA hP hD hS hl
        refine va_mmin hx hb (hml.trans hl.1.symm) hown (hts _ hlk) (sy _ (by simp [bw_sys]) rfl) (sy _ (by simp [bw_sys]) rfl) (sy _ (by simp [bw_sys]) rfl) (by omega) ?_ hcs.1 hcs.2 hdg (h3 H locs lsA hP hD hS hl)
        have := Nat.le_of_ble_eq_true h2
        rw [bw_wd_cat]; omega
      · obtain ⟨n, r1, g1, h1⟩ := be_i1 (show bw_i1 st False (fun n r => bw_i1 r False fun dp r => bw_r1 r False fun o2 r => bw_i1 r False fun sp r => bw_r1 r False fun o1 r => bw_nl r False (bif (Nat.blt o1 53 && Nat.beq (bw_kd o1) 1) && (Nat.blt o2 53 && Nat.beq (bw_kd o2) 1) then (if (0 ≤ sp ∧ 0 ≤ dp) ∧ (0 ≤ n ∧ sp.toNatClampNeg + n.toNatClampNeg ≤ bw_len o1 ∧ dp.toNatClampNeg + n.toNatClampNeg ≤ bw_len o2) then bw_W p l e R s m args below meth c cs ss Q ad D cI cJ cZ A H0 nL (pc + 3) ls [] (bw_cp μ o1 o2 sp.toNatClampNeg dp.toNatClampNeg n.toNatClampNeg) else False) else False)) from h)
        obtain ⟨dp, r2, g2, h2⟩ := be_i1 h1
        obtain ⟨o2, r3, g3, h3⟩ := be_r1 h2
        obtain ⟨sp, r4, g4, h4⟩ := be_i1 h3
        obtain ⟨o1, r5, g5, h5⟩ := be_r1 h4
        obtain ⟨g6, h6⟩ := be_nl h5
        obtain ⟨k1, h7⟩ := be_b h6
        obtain ⟨k2, h8⟩ := be_if h7
        obtain ⟨k3, k4⟩ := be_and k1
        clear h h1 h2 h3 h4 h5 h6 h7
        subst g6
        subst g5
        subst g4
        subst g3
        subst g2
        subst g1
        intro H locs lsA hP hD hS hl
        refine va_copyi hx hb (hml.trans hl.1.symm) hown (hts _ hlk) (sy _ (by simp [bw_sys]) rfl) (sy _ (by simp [bw_sys]) rfl) (sy _ (by simp [bw_sys]) rfl) hK hP hD hS o1 o2 0 0 (bw_cell1 k3) (bw_cell1 k4) rfl rfl rfl (bw_nneg k2.1.1) (bw_nneg k2.1.2) (bw_nneg k2.2.1) k2.2.2.1 k2.2.2.2 (fun _ _ => rfl) (by omega) ?_ hdg (fun H1 locs1 hP1 hD1 hS1 => ?_)
        · show 0 + (nativeFrameWords "java/lang/System" "arraycopy" 5 + 11) ≤ R.locals
          have : nativeFrameWords "java/lang/System" "arraycopy" 5 ≤ 50 := by decide +kernel
          omega
        · rw [bw_setC k4] at hP1 hD1
          exact h8 H1 locs1 lsA hP1 hD1 hS1 hl
  -- ireturn
  · have o2 := bw_beq (show Nat.beq len 1 = true from ok)
    subst o2
    obtain ⟨x, r, g1, h1⟩ := be_i1 h
    obtain ⟨g2, h2⟩ := be_nl h1
    clear h h1
    subst g2
    subst g1
    split at h2
    · exact hri x μ pc ls hdg (Or.inl rfl) h2
    · obtain ⟨h3, h4⟩ := be_if h2
      exact hri x μ pc ls hdg (Or.inr ⟨rfl, h3⟩) h4
    · exact h2.elim
  -- lreturn
  · have o2 := bw_beq (show Nat.beq len 1 = true from ok)
    subst o2
    obtain ⟨x, r, g1, h1⟩ := be_l1 h
    obtain ⟨g2, h2⟩ := be_nl h1
    clear h h1
    subst g2
    subst g1
    split at h2
    · exact hrl x μ pc ls hdg rfl h2
    · exact h2.elim
  -- return
  · have o2 := bw_beq (show Nat.beq len 1 = true from ok)
    subst o2
    obtain ⟨g2, h2⟩ := be_nl h
    clear h
    subst g2
    split at h2
    · exact hrv μ pc ls hdg rfl h2
    · exact h2.elim
  · exact h.elim
end SOUND
