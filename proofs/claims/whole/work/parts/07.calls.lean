section SOUND
variable {p : Program} {l : Launch} {e : Env} {R : Room} {s : State} {m : MethodId} {args : Array Value} {below : List Frame} {meth : Method} {c : Code} {cs ss : Nat} {Q : State → Prop}
variable {ad : Nat → Nat} {D : va_G} {cI cJ cZ : ClassId} {A : Nat → Prop} {H0 : Heap} {cc : ByteArray} {nL own : Nat} {d : Nat}
set_option maxHeartbeats 4000000 in
set_option maxRecDepth 100000 in
theorem bw_inv {pc i a b len : Nat} {ls : List (Option bwV)} {st : List bwV} {μ : bwM} (hC : bw_Cx p s m args c own cc nL D cI cJ cZ A H0) (hCS : bw_CS l ad D cI cJ cZ d) (hfr : d + 1 ≤ R.frames) (hlo : d * 64 + 64 ≤ R.locals) (hcs : cs ≤ R.cells ∧ ss ≤ R.slots)
    (hdg : decode cc pc = .ok (.invokevirtual i, len)) (hlen3 : len = 3) (ok2 : (bw_ml.any fun q => Nat.beq q.1 own && Nat.beq q.2.1 i && Nat.beq q.2.2.1 a && Nat.beq q.2.2.2.1 0) = true) (ok3 : (match bw_nth bw_sg a with
    | some (cn, _, _, _, rt, sc, na) => Nat.beq sc 0 && Nat.blt cn 5 && Nat.beq b (cn * 1000 + (na + 1) * 10 + rt) && Nat.blt rt 4 && Nat.blt na 10
    | none => false) = true)
    (h : bw_ar (b / 10 % 100) st [] False fun as r => bw_rc as (b / 1000) bw_cls False (bif Nat.ble (bw_wd r) 8 then (match b % 10 with
      | 0 => bw_bV (bw_call d a as μ) False fun μ => bw_W p l e R s m args below meth c cs ss Q ad D cI cJ cZ A H0 nL (pc + len) ls r μ
      | 2 => bw_bL (bw_call d a as μ) False fun x μ => bw_W p l e R s m args below meth c cs ss Q ad D cI cJ cZ A H0 nL (pc + len) ls (.inr (.inl x) :: r) μ
      | _ => bw_bI (bw_call d a as μ) False fun x μ => bw_W p l e R s m args below meth c cs ss Q ad D cI cJ cZ A H0 nL (pc + len) ls (.inl x :: r) μ) else False)) :
    bw_W p l e R s m args below meth c cs ss Q ad D cI cJ cZ A H0 nL pc ls st μ := by
  intro H locs lsA hP hD hS hl
  subst hlen3
  obtain ⟨as, r, hst, hlen, h1⟩ := be_ar _ _ _ h
  rw [List.append_nil] at h1
  obtain ⟨o, q, has, ho, h2⟩ := be_rc h1
  obtain ⟨hw8, h3⟩ := be_b h2
  clear h h1 h2
  subst has
  obtain ⟨g, n, hg, hn, hlk, -⟩ := bw_ml_use (P := fun n => Nat.beq n 0) ok2
  have hlk := hlk (bw_beq hn)
  rw [hg] at ok3
  obtain ⟨p0, hp0⟩ := bw_okGs_use _ _ _ _ bw_sg_ok hg
  obtain ⟨cn, y, bytes, mx, rt, sc, na⟩ := g
  simp only [Bool.and_eq_true] at ok3
  obtain ⟨⟨⟨⟨s1, s2⟩, s3⟩, s4⟩, s5⟩ := ok3
  have s1 := bw_beq s1
  subst s1
  have s3 := bw_beq s3
  have s2 : cn < 5 := Nat.le_of_ble_eq_true s2
  have s4 : rt < 4 := Nat.le_of_ble_eq_true s4
  have s5 : na < 10 := Nat.le_of_ble_eq_true s5
  have hb1 : b / 1000 = cn := by omega
  have hb2 : b / 10 % 100 = na + 1 := by omega
  have hb3 : b % 10 = rt := by omega
  simp only [bw_okG, Bool.and_eq_true, decide_eq_true_eq] at hp0
  obtain ⟨⟨⟨⟨⟨w1, w2⟩, w3⟩, w4⟩, w5⟩, w6, w7⟩ := hp0
  have w5 := Nat.le_of_ble_eq_true w5
  have hcw := bw_cw_mem hg
  have hcwg : bw_cw (cn, y, bytes, mx, rt, _, na) ∈ bw_ws := bw_gd hcw rfl
  have hi := bw_gd (List.mem_of_getElem? w4) rfl
  have hin := bw_gd (List.mem_of_getElem? w6) rfl
  have hsel := bw_gd (List.mem_of_getElem? w7) rfl
  obtain ⟨hx, hb, hml, hown, hts, hK, hA, hN⟩ := id hC
  have hcl : bw_cls o = cn := by rw [ho, hb1]
  obtain ⟨ho1, ho2⟩ := bw_cls_ob hcl s2
  subst hst
  refine bw_call_go (own := own) (cc := cc) (d := d) (a := a) (rt := b % 10) hC hD hS hl h3 (av := (Value.ref (ad o) :: q.map (bw_cv ad)).toArray) (fun v μ' hc => ?_)
  have hcell : (bw_cells ad cI cJ cZ μ)[o]? = some (ad o, .inr (cn, bw_fd ad o (μ.1 o) (μ.2 o))) := by
    rw [bw_cells_at ho1, bw_cell_0 ho2, hcl]
  have hvc : ∃ r : vw_C, vwCl[cn]? = some r ∧ r.1 = bw_own cn := by
    match cn, s2 with
    | 0, _ => exact ⟨_, rfl, rfl⟩
    | 1, _ => exact ⟨_, rfl, rfl⟩
    | 2, _ => exact ⟨_, rfl, rfl⟩
    | 3, _ => exact ⟨_, rfl, rfl⟩
    | 4, _ => exact ⟨_, rfl, rfl⟩
  obtain ⟨vr, hvr, hvn⟩ := hvc
  have hrec := va_recv hK hP (ci := cn) (q0 := o) hvr hcell
  rw [hvn, ← w1] at hrec
  have hM := hCS a _ μ v μ' hc _ hg H.size
  refine va_runV (C := y.cls) (b := ad o) (As := q.map (bw_cv ad)) (rest := r.map (bw_cv ad)) (Ts := bw_ws) (own := bw_own own) (index := i) (bytes := bytes) (maxL := mx) (ret := bw_ret rt) (n := na) (nL := nL) ⟨hx, hb, hml, hown, hts⟩ hM ?_ ⟨bw_blind, hrec, bw_pre_at hC hP hD⟩ rfl ?_ hl.1 ?_ ?_ hdg ⟨hcs.1, hcs.2⟩
  · refine ⟨callB_of na hts (bw_good hcw) rfl rfl rfl (hts _ hi) (hts _ (bw_gd hlk rfl)) w3 ⟨hfr, ?_⟩, hts _ hin, hts _ hsel⟩
    show 8 + (mx + 11) + d * 64 ≤ R.locals
    have : mx ≤ 40 := w5
    omega
  · simp only [List.length_cons] at hlen
    simp; omega
  · simp [bw_cv]
  · exact lv_room (by rw [bw_wd_cat]; exact Nat.le_of_ble_eq_true hw8)
set_option maxHeartbeats 4000000 in
set_option maxRecDepth 100000 in
theorem bw_inS {pc i a b len : Nat} {ls : List (Option bwV)} {st : List bwV} {μ : bwM} (hC : bw_Cx p s m args c own cc nL D cI cJ cZ A H0) (hCS : bw_CS l ad D cI cJ cZ d) (hfr : d + 1 ≤ R.frames) (hlo : d * 64 + 64 ≤ R.locals) (hcs : cs ≤ R.cells ∧ ss ≤ R.slots)
    (hdg : decode cc pc = .ok (.invokestatic i, len)) (hlen3 : len = 3) (ok2 : (bw_ml.any fun q => Nat.beq q.1 own && Nat.beq q.2.1 i && Nat.beq q.2.2.1 a) = true) (ok3 : (match bw_nth bw_sg a with
    | some (_, _, _, _, rt, sc, na) => Nat.beq sc 1 && Nat.beq b (na * 10 + rt) && Nat.blt rt 4 && Nat.blt na 10
    | none => false) = true)
    (h : bw_ar (b / 10 % 100) st [] False fun as r => bif Nat.ble (bw_wd r) 8 then (match b % 10 with
      | 0 => bw_bV (bw_call d a as μ) False fun μ => bw_W p l e R s m args below meth c cs ss Q ad D cI cJ cZ A H0 nL (pc + len) ls r μ
      | 2 => bw_bL (bw_call d a as μ) False fun x μ => bw_W p l e R s m args below meth c cs ss Q ad D cI cJ cZ A H0 nL (pc + len) ls (.inr (.inl x) :: r) μ
      | _ => bw_bI (bw_call d a as μ) False fun x μ => bw_W p l e R s m args below meth c cs ss Q ad D cI cJ cZ A H0 nL (pc + len) ls (.inl x :: r) μ) else False) :
    bw_W p l e R s m args below meth c cs ss Q ad D cI cJ cZ A H0 nL pc ls st μ := by
  intro H locs lsA hP hD hS hl
  subst hlen3
  obtain ⟨as, r, hst, hlen, h1⟩ := be_ar _ _ _ h
  rw [List.append_nil] at h1
  obtain ⟨hw8, h3⟩ := be_b h1
  clear h h1
  obtain ⟨g, n, hg, -, hlk, hlkN⟩ := bw_ml_use (own := own) (i := i) (a := a) (P := fun _ => true) (by simpa using ok2)
  rw [hg] at ok3
  obtain ⟨p0, hp0⟩ := bw_okGs_use _ _ _ _ bw_sg_ok hg
  obtain ⟨cn, y, bytes, mx, rt, sc, na⟩ := g
  simp only [Bool.and_eq_true] at ok3
  obtain ⟨⟨⟨s1, s3⟩, s4⟩, s5⟩ := ok3
  have s1 := bw_beq s1
  subst s1
  have s3 := bw_beq s3
  have s4 : rt < 4 := Nat.le_of_ble_eq_true s4
  have s5 : na < 10 := Nat.le_of_ble_eq_true s5
  have hb2 : b / 10 % 100 = na := by omega
  have hb3 : b % 10 = rt := by omega
  simp only [bw_okG, Bool.and_eq_true, decide_eq_true_eq] at hp0
  obtain ⟨⟨⟨⟨⟨w1, w2⟩, w3⟩, w4⟩, w5⟩, w6⟩ := hp0
  have w5 : mx ≤ 40 := Nat.le_of_ble_eq_true w5
  have hcw := bw_cw_mem hg
  have hcwg : bw_cw (cn, y, bytes, mx, rt, _, na) ∈ bw_ws := bw_gd hcw rfl
  have hi := bw_gd (List.mem_of_getElem? w4) rfl
  have hsta := bw_gd (List.mem_of_getElem? w6) rfl
  obtain ⟨hx, hb, hml, hown, hts, hK, hA, hN⟩ := id hC
  subst hst
  refine bw_call_go (own := own) (cc := cc) (d := d) (a := a) (rt := b % 10) hC hD hS hl h3 (av := (as.map (bw_cv ad)).toArray) (fun v μ' hc => ?_)
  have hM := hCS a _ μ v μ' hc _ hg H.size
  by_cases hn : n = 0
  · refine va_runS (As := as.map (bw_cv ad)) (rest := r.map (bw_cv ad)) (Ts := bw_ws) (own := bw_own own) (index := i) (bytes := bytes) (maxL := mx) (ret := bw_ret rt) (n := na) (nL := nL) ⟨hx, hb, hml, hown, hts⟩ hM ?_ ⟨bw_blind, bw_pre_at hC hP hD⟩ rfl ?_ hl.1 ?_ ?_ hdg ⟨hcs.1, hcs.2⟩
    · refine ⟨callB_of na hts (bw_good hcw) rfl rfl rfl (hts _ hi) (hts _ (bw_gd (hlk hn) rfl)) w3 ⟨hfr, ?_⟩, hts _ hsta⟩
      show 8 + (mx + 11) + d * 64 ≤ R.locals
      omega
    · simp; omega
    · simp
    · exact lv_room (by rw [bw_wd_cat]; exact Nat.le_of_ble_eq_true hw8)
  · refine va_runSN (host := "BeliefWeb") (As := as.map (bw_cv ad)) (rest := r.map (bw_cv ad)) (Ts := bw_ws) (own := bw_own own) (index := i) (bytes := bytes) (maxL := mx) (ret := bw_ret rt) (n := na) (nL := nL) ⟨hx, hb, hml, hown, hts⟩ hM ?_ ⟨bw_blind, bw_pre_at hC hP hD⟩ rfl ?_ hl.1 ?_ ?_ hdg ⟨hcs.1, hcs.2⟩
    · refine ⟨⟨⟨rfl, rfl, hfr, ?_, pay_in hts (bw_good hcw), List.mem_cons_self⟩, hts _ hcwg, hts _ hi, ⟨w3.1, w3.2.1⟩, fun sig h => ?_, va_Nw.use rfl (hN _ _ _ (hlkN hn))⟩, hts _ hsta, trivial⟩
      · show 8 + (mx + 11) + d * 64 ≤ R.locals
        omega
      · have h2 := w3.2.2
        rw [h] at h2
        exact (Option.some.inj h2).symm
    · simp; omega
    · simp
    · exact lv_room (by rw [bw_wd_cat]; exact Nat.le_of_ble_eq_true hw8)
end SOUND
