noncomputable def eX3_thing (d pc : Nat) (ls : List (Option bwV)) (st : List bwV) (μ : bwM) : Option bwR := bw_ex (bw_call d) 0 bw_z 1 tX3_thing pc ls st μ
set_option maxRecDepth 20000 in
theorem qX3_thing (d : Nat)  (x1 x2 : Int32) (μ : bwM) : bw_call (d + 1) 45 [.inr (.inr 0), .inl x1, .inl x2] μ = if x1 < (2 : Int32) then some (some (.inl (-1 : Int32)), μ) else if (4 : Int32) < x1 then some (some (.inl (-1 : Int32)), μ) else if x2 < (1 : Int32) then some (some (.inl (-1 : Int32)), μ) else if x2 ≤ (100 : Int32) then if (12 : Int32) ≤ (μ.1 2 0) then some (some (.inl (-3 : Int32)), μ) else bw_bI (bw_call d 23 [.inr (.inr 2)] μ) none (fun r2 m1 => if (20000 : Int32) < (r2 * x1) then some (some (.inl (-3 : Int32)), m1) else bw_bL (bw_call d 24 [.inr (.inr 2)] m1) none (fun r4 m3 => if (lg_cmp (r4 * (x2.toInt64)) (Int64.ofNat 1000000000)) ≤ 0 then eX3_thing d 70 [some (.inr (.inr 0)), some (.inl x1), some (.inl x2), none] [] m3 else some (some (.inl (-3 : Int32)), m3))) else some (some (.inl (-1 : Int32)), μ) := by
  exact (bw_ex_go [70] 36 0 _ _ _).trans rfl
set_option maxRecDepth 20000 in
theorem qX3_thing_70 (d : Nat)  (x1 x2 : Int32) (μ : bwM) : eX3_thing d 70 [some (.inr (.inr 0)), some (.inl x1), some (.inl x2), none] [] μ = bw_bV (bw_call d 37 [.inr (.inr 2), .inl x1, .inl x2] μ) none (fun m1 => bw_bV (bw_call d 0 [.inr (.inr 22), .inr (.inr 2)] m1) none (fun m2 => some (some (.inl (μ.1 2 0)), m2))) := by
  exact (bw_ex_go [70] 17 70 _ _ _).trans rfl
noncomputable def eX3_arrow (d pc : Nat) (ls : List (Option bwV)) (st : List bwV) (μ : bwM) : Option bwR := bw_ex (bw_call d) 0 bw_z 1 tX3_arrow pc ls st μ
set_option maxRecDepth 20000 in
theorem qX3_arrow (d : Nat)  (x1 x2 : Int32) (μ : bwM) : bw_call (d + 1) 46 [.inr (.inr 0), .inl x1, .inl x2] μ = bw_bI (bw_call d 17 [.inr (.inr 2), .inl x1] μ) none (fun r2 m1 => if r2 = 0 then some (some (.inl (-1 : Int32)), m1) else bw_bI (bw_call d 17 [.inr (.inr 2), .inl x2] m1) none (fun r4 m3 => if r4 = 0 then some (some (.inl (-1 : Int32)), m3) else if x1 = x2 then some (some (.inl (-1 : Int32)), m3) else bw_bI (bw_call d 31 [.inr (.inr 2), .inl x2, .inl x1] m3) none (fun r6 m5 => if r6 = (-1 : Int32) then bw_bI (bw_call d 33 [.inr (.inr 2), .inl x1] m5) none (fun r8 m7 => bw_bI (bw_call d 84 [.inl r8, .inl x2] m7) none (fun r10 m9 => if r10 = 0 then if bw_in x2 12 then if (m9.1 5 x2.toNatClampNeg) < (3 : Int32) then eX3_arrow d 76 [some (.inr (.inr 0)), some (.inl x1), some (.inl x2)] [] m9 else some (some (.inl (-3 : Int32)), m9) else none else some (some (.inl (-2 : Int32)), m9))) else some (some (.inl (-1 : Int32)), m5)))) := by
  exact (bw_ex_go [76] 37 0 _ _ _).trans rfl
set_option maxRecDepth 20000 in
theorem qX3_arrow_76 (d : Nat)  (x1 x2 : Int32) (μ : bwM) : eX3_arrow d 76 [some (.inr (.inr 0)), some (.inl x1), some (.inl x2)] [] μ = bw_bV (bw_call d 74 [.inr (.inr 0), .inl (0 : Int32), .inl x1, .inl x2, .inl (0 : Int32), .inl (0 : Int32)] μ) none (fun m1 => if bw_in x2 12 then some (some (.inl (m1.1 5 x2.toNatClampNeg)), m1) else none) := by
  exact (bw_ex_go [76] 14 76 _ _ _).trans rfl
noncomputable def eX3_cut (d pc : Nat) (ls : List (Option bwV)) (st : List bwV) (μ : bwM) : Option bwR := bw_ex (bw_call d) 0 bw_z 1 tX3_cut pc ls st μ
set_option maxRecDepth 20000 in
theorem qX3_cut (d : Nat)  (x1 x2 : Int32) (μ : bwM) : bw_call (d + 1) 47 [.inr (.inr 0), .inl x1, .inl x2] μ = bw_bI (bw_call d 17 [.inr (.inr 2), .inl x1] μ) none (fun r2 m1 => if r2 = 0 then some (some (.inl (-1 : Int32)), m1) else bw_bI (bw_call d 17 [.inr (.inr 2), .inl x2] m1) none (fun r4 m3 => if r4 = 0 then some (some (.inl (-1 : Int32)), m3) else bw_bI (bw_call d 31 [.inr (.inr 2), .inl x2, .inl x1] m3) none (fun r6 m5 => if r6 = (-1 : Int32) then some (some (.inl (-1 : Int32)), m5) else bw_bV (bw_call d 74 [.inr (.inr 0), .inl (1 : Int32), .inl x1, .inl x2, .inl (0 : Int32), .inl (0 : Int32)] m5) none (fun m7 => if bw_in x2 12 then some (some (.inl (m7.1 5 x2.toNatClampNeg)), m7) else none)))) := by
  exact (bw_ex_go [] 31 0 _ _ _).trans rfl
noncomputable def eX3_weight (d pc : Nat) (ls : List (Option bwV)) (st : List bwV) (μ : bwM) : Option bwR := bw_ex (bw_call d) 0 bw_z 1 tX3_weight pc ls st μ
set_option maxRecDepth 20000 in
theorem qX3_weight (d : Nat)  (x1 x2 x3 x4 : Int32) (μ : bwM) : bw_call (d + 1) 48 [.inr (.inr 0), .inl x1, .inl x2, .inl x3, .inl x4] μ = bw_bI (bw_call d 20 [.inr (.inr 2), .inl x1, .inl x2, .inl x3] μ) none (fun r2 m1 => if r2 = 0 then some (some (.inl (-1 : Int32)), m1) else if x4 < 0 then some (some (.inl (-1 : Int32)), m1) else if bw_in x1 12 then if x4 ≤ (m1.1 4 x1.toNatClampNeg) then bw_bI (bw_call d 81 [.inl x1, .inl x2, .inl x3] m1) none (fun r4 m3 => if bw_in r4 3072 then eX3_weight d 50 [some (.inr (.inr 0)), some (.inl x1), some (.inl x2), some (.inl x3), some (.inl x4), some (.inl (m3.1 7 r4.toNatClampNeg))] [] m3 else none) else some (some (.inl (-1 : Int32)), m1) else none) := by
  exact (bw_ex_go [50] 27 0 _ _ _).trans rfl
set_option maxRecDepth 20000 in
theorem qX3_weight_50 (d : Nat)  (x1 x2 x3 x4 x5 : Int32) (μ : bwM) : eX3_weight d 50 [some (.inr (.inr 0)), some (.inl x1), some (.inl x2), some (.inl x3), some (.inl x4), some (.inl x5)] [] μ = bw_bV (bw_call d 74 [.inr (.inr 0), .inl (2 : Int32), .inl x1, .inl x2, .inl x3, .inl x4] μ) none (fun m1 => some (some (.inl x5), m1)) := by
  exact (bw_ex_go [50] 10 50 _ _ _).trans rfl
noncomputable def eX3_told (d pc : Nat) (ls : List (Option bwV)) (st : List bwV) (μ : bwM) : Option bwR := bw_ex (bw_call d) 0 bw_z 1 tX3_told pc ls st μ
set_option maxRecDepth 20000 in
theorem qX3_told (d : Nat)  (x1 x2 x3 : Int32) (μ : bwM) : bw_call (d + 1) 49 [.inr (.inr 0), .inl x1, .inl x2, .inl x3] μ = bw_bI (bw_call d 20 [.inr (.inr 2), .inl x1, .inl x2, .inl x3] μ) none (fun r2 m1 => if r2 = 0 then some (some (.inl (-1 : Int32)), m1) else bw_bI (bw_call d 81 [.inl x1, .inl x2, .inl x3] m1) none (fun r4 m3 => if bw_in r4 3072 then some (some (.inl (m3.1 7 r4.toNatClampNeg)), m3) else none)) := by
  exact (bw_ex_go [] 18 0 _ _ _).trans rfl
noncomputable def eX3_about (d pc : Nat) (ls : List (Option bwV)) (st : List bwV) (μ : bwM) : Option bwR := bw_ex (bw_call d) 0 bw_z 1 tX3_about pc ls st μ
set_option maxRecDepth 20000 in
theorem qX3_about (d : Nat)  (x1 x2 : Int32) (μ : bwM) : bw_call (d + 1) 50 [.inr (.inr 0), .inl x1, .inl x2] μ = bw_bI (bw_call d 17 [.inr (.inr 2), .inl x1] μ) none (fun r2 m1 => if r2 = 0 then some (some (.inl (-1 : Int32)), m1) else if x2 = (0 : Int32) then if bw_in x1 12 then some (some (.inl (m1.1 3 x1.toNatClampNeg)), m1) else none else if x2 = (1 : Int32) then if bw_in x1 12 then some (some (.inl (m1.1 4 x1.toNatClampNeg)), m1) else none else if x2 = (2 : Int32) then if bw_in x1 12 then some (some (.inl (m1.1 5 x1.toNatClampNeg)), m1) else none else if x2 = (3 : Int32) then bw_bI (bw_call d 26 [.inr (.inr 2), .inl x1] m1) none (fun r4 m3 => some (some (.inl r4), m3)) else if x2 = (4 : Int32) then bw_bI (bw_call d 29 [.inr (.inr 2), .inl x1] m1) none (fun r6 m5 => if r6 = 0 then some (some (.inl (0 : Int32)), m5) else some (some (.inl (1 : Int32)), m5)) else if x2 = (5 : Int32) then if bw_in x1 12 then some (some (.inl (m1.1 8 x1.toNatClampNeg)), m1) else none else if x2 = (6 : Int32) then if bw_in x1 12 then some (some (.inl (m1.1 9 x1.toNatClampNeg)), m1) else none else some (some (.inl (-1 : Int32)), m1)) := by
  exact (bw_ex_go [] 16 0 _ _ _).trans rfl
noncomputable def eX3_parent (d pc : Nat) (ls : List (Option bwV)) (st : List bwV) (μ : bwM) : Option bwR := bw_ex (bw_call d) 0 bw_z 1 tX3_parent pc ls st μ
set_option maxRecDepth 20000 in
theorem qX3_parent (d : Nat)  (x1 x2 : Int32) (μ : bwM) : bw_call (d + 1) 51 [.inr (.inr 0), .inl x1, .inl x2] μ = bw_bI (bw_call d 17 [.inr (.inr 2), .inl x1] μ) none (fun r2 m1 => if r2 = 0 then some (some (.inl (-2 : Int32)), m1) else if x2 < 0 then some (some (.inl (-2 : Int32)), m1) else if bw_in x1 12 then if x2 < (m1.1 5 x1.toNatClampNeg) then bw_bI (bw_call d 83 [.inl x1, .inl x2] m1) none (fun r4 m3 => if bw_in r4 36 then some (some (.inl (m3.1 6 r4.toNatClampNeg)), m3) else none) else some (some (.inl (-2 : Int32)), m1) else none) := by
  exact (bw_ex_go [] 23 0 _ _ _).trans rfl
noncomputable def eX3_sound (d pc : Nat) (ls : List (Option bwV)) (st : List bwV) (μ : bwM) : Option bwR := bw_ex (bw_call d) 0 bw_z 1 tX3_sound pc ls st μ
set_option maxRecDepth 20000 in
theorem qX3_sound (d : Nat)  (μ : bwM) : bw_call (d + 1) 52 [.inr (.inr 0)] μ = bw_bI (bw_call d 28 [.inr (.inr 2)] μ) none (fun r2 m1 => if r2 = 0 then some (some (.inl (0 : Int32)), m1) else some (some (.inl (1 : Int32)), m1)) := by
  exact (bw_ex_go [] 8 0 _ _ _).trans rfl
noncomputable def eX3_see (d pc : Nat) (ls : List (Option bwV)) (st : List bwV) (μ : bwM) : Option bwR := bw_ex (bw_call d) 0 bw_z 1 tX3_see pc ls st μ
set_option maxRecDepth 20000 in
theorem qX3_see (d : Nat)  (x1 x2 : Int32) (μ : bwM) : bw_call (d + 1) 53 [.inr (.inr 0), .inl x1, .inl x2] μ = bw_bI (bw_call d 19 [.inr (.inr 2), .inl x1, .inl x2] μ) none (fun r2 m1 => if r2 = 0 then some (some (.inl (-1 : Int32)), m1) else bw_bV (bw_call d 74 [.inr (.inr 0), .inl (3 : Int32), .inl x1, .inl x2, .inl (0 : Int32), .inl (0 : Int32)] m1) none (fun m3 => some (some (.inl (1 : Int32)), m3))) := by
  exact (bw_ex_go [] 16 0 _ _ _).trans rfl
noncomputable def eX3_act (d pc : Nat) (ls : List (Option bwV)) (st : List bwV) (μ : bwM) : Option bwR := bw_ex (bw_call d) 0 bw_z 1 tX3_act pc ls st μ
set_option maxRecDepth 20000 in
theorem qX3_act (d : Nat)  (x1 x2 : Int32) (μ : bwM) : bw_call (d + 1) 54 [.inr (.inr 0), .inl x1, .inl x2] μ = bw_bI (bw_call d 19 [.inr (.inr 2), .inl x1, .inl x2] μ) none (fun r2 m1 => if r2 = 0 then some (some (.inl (-1 : Int32)), m1) else bw_bV (bw_call d 74 [.inr (.inr 0), .inl (4 : Int32), .inl x1, .inl x2, .inl (0 : Int32), .inl (0 : Int32)] m1) none (fun m3 => some (some (.inl (1 : Int32)), m3))) := by
  exact (bw_ex_go [] 16 0 _ _ _).trans rfl
noncomputable def eX3_force (d pc : Nat) (ls : List (Option bwV)) (st : List bwV) (μ : bwM) : Option bwR := bw_ex (bw_call d) 0 bw_z 1 tX3_force pc ls st μ
set_option maxRecDepth 20000 in
theorem qX3_force (d : Nat)  (x1 x2 x3 : Int32) (μ : bwM) : bw_call (d + 1) 55 [.inr (.inr 0), .inl x1, .inl x2, .inl x3] μ = bw_bI (bw_call d 18 [.inr (.inr 2), .inl x1, .inl x2] μ) none (fun r2 m1 => if r2 = 0 then some (some (.inl (-1 : Int32)), m1) else if x3 < 0 then some (some (.inl (-1 : Int32)), m1) else if x3 ≤ (3 : Int32) then bw_bI (bw_call d 80 [.inl x1, .inl x2] m1) none (fun r4 m3 => if bw_in r4 48 then eX3_force d 38 [some (.inr (.inr 0)), some (.inl x1), some (.inl x2), some (.inl x3), some (.inl (m3.1 10 r4.toNatClampNeg))] [] m3 else none) else some (some (.inl (-1 : Int32)), m1)) := by
  exact (bw_ex_go [38] 21 0 _ _ _).trans rfl
set_option maxRecDepth 20000 in
theorem qX3_force_38 (d : Nat)  (x1 x2 x3 x4 : Int32) (μ : bwM) : eX3_force d 38 [some (.inr (.inr 0)), some (.inl x1), some (.inl x2), some (.inl x3), some (.inl x4)] [] μ = bw_bV (bw_call d 74 [.inr (.inr 0), .inl (5 : Int32), .inl x1, .inl x2, .inl x3, .inl (0 : Int32)] μ) none (fun m1 => some (some (.inl x4), m1)) := by
  exact (bw_ex_go [38] 10 38 _ _ _).trans rfl
noncomputable def eX3_chance (d pc : Nat) (ls : List (Option bwV)) (st : List bwV) (μ : bwM) : Option bwR := bw_ex (bw_call d) 0 bw_z 1 tX3_chance pc ls st μ
set_option maxRecDepth 20000 in
theorem qX3_chance (d : Nat)  (μ : bwM) : bw_call (d + 1) 56 [.inr (.inr 0)] μ = bw_bI (bw_call d 28 [.inr (.inr 2)] μ) none (fun r2 m1 => if r2 = 0 then some (some (.inl (-4 : Int32)), m1) else bw_bV (bw_call d 5 [.inr (.inr 24), .inr (.inr 2)] m1) none (fun m3 => bw_bL (bw_call d 24 [.inr (.inr 2)] m3) none (fun r5 m4 => bw_bV (bw_call d 76 [.inr (.inr 0), .inr (.inl (m3.2 24 10)), .inr (.inl r5)] m4) none (fun m6 => some (some (.inl (1 : Int32)), m6))))) := by
  exact (bw_ex_go [] 20 0 _ _ _).trans rfl
noncomputable def eX3_ask (d pc : Nat) (ls : List (Option bwV)) (st : List bwV) (μ : bwM) : Option bwR := bw_ex (bw_call d) 0 bw_z 1 tX3_ask pc ls st μ
set_option maxRecDepth 20000 in
theorem qX3_ask (d : Nat)  (x1 x2 : Int32) (μ : bwM) : bw_call (d + 1) 57 [.inr (.inr 0), .inl x1, .inl x2] μ = bw_bI (bw_call d 18 [.inr (.inr 2), .inl x1, .inl x2] μ) none (fun r2 m1 => if r2 = 0 then some (some (.inl (-1 : Int32)), m1) else bw_bI (bw_call d 75 [.inr (.inr 0)] m1) none (fun r4 m3 => if r4 = 0 then bw_bI (bw_call d 80 [.inl x1, .inl x2] m3) none (fun r6 m5 => if bw_in r6 48 then bw_bV (bw_call d 76 [.inr (.inr 0), .inr (.inl (m5.2 27 r6.toNatClampNeg)), .inr (.inl (m5.2 24 10))] m5) none (fun m7 => some (some (.inl (1 : Int32)), m7)) else none) else some (some (.inl r4), m3))) := by
  exact (bw_ex_go [] 26 0 _ _ _).trans rfl
noncomputable def eX3_both (d pc : Nat) (ls : List (Option bwV)) (st : List bwV) (μ : bwM) : Option bwR := bw_ex (bw_call d) 0 bw_z 1 tX3_both pc ls st μ
set_option maxRecDepth 20000 in
theorem qX3_both (d : Nat)  (x1 x2 x3 x4 : Int32) (μ : bwM) : bw_call (d + 1) 58 [.inr (.inr 0), .inl x1, .inl x2, .inl x3, .inl x4] μ = bw_bI (bw_call d 18 [.inr (.inr 2), .inl x1, .inl x2] μ) none (fun r2 m1 => if r2 = 0 then some (some (.inl (-1 : Int32)), m1) else bw_bI (bw_call d 18 [.inr (.inr 2), .inl x3, .inl x4] m1) none (fun r4 m3 => if r4 = 0 then some (some (.inl (-1 : Int32)), m3) else eX3_both d 27 [some (.inr (.inr 0)), some (.inl x1), some (.inl x2), some (.inl x3), some (.inl x4), none, none, none] [] m3)) := by
  exact (bw_ex_go [27, 63] 15 0 _ _ _).trans rfl
set_option maxRecDepth 20000 in
theorem qX3_both_27 (d : Nat)  (x1 x2 x3 x4 : Int32) (μ : bwM) : eX3_both d 27 [some (.inr (.inr 0)), some (.inl x1), some (.inl x2), some (.inl x3), some (.inl x4), none, none, none] [] μ = bw_bI (bw_call d 75 [.inr (.inr 0)] μ) none (fun r2 m1 => if r2 = 0 then bw_bV (bw_call d 6 [.inr (.inr 24), .inr (.inr 2), .inl x1, .inl x2] m1) none (fun m3 => eX3_both d 63 [some (.inr (.inr 0)), some (.inl x1), some (.inl x2), some (.inl x3), some (.inl x4), some (.inl r2), some (.inr (.inl (m1.2 24 10))), none] [] m3) else some (some (.inl r2), m1)) := by
  exact (bw_ex_go [27, 63] 18 27 _ _ _).trans rfl
set_option maxRecDepth 20000 in
theorem qX3_both_63 (d : Nat)  (x1 x2 x3 x4 x5 : Int32) (y6 : Int64) (μ : bwM) : eX3_both d 63 [some (.inr (.inr 0)), some (.inl x1), some (.inl x2), some (.inl x3), some (.inl x4), some (.inl x5), some (.inr (.inl y6)), none] [] μ = bw_bI (bw_call d 80 [.inl x3, .inl x4] μ) none (fun r2 m1 => if bw_in r2 48 then bw_bV (bw_call d 76 [.inr (.inr 0), .inr (.inl (m1.2 27 r2.toNatClampNeg)), .inr (.inl y6)] m1) none (fun m3 => some (some (.inl (1 : Int32)), m3)) else none) := by
  exact (bw_ex_go [27, 63] 13 63 _ _ _).trans rfl
noncomputable def eX3_up (d pc : Nat) (ls : List (Option bwV)) (st : List bwV) (μ : bwM) : Option bwR := bw_ex (bw_call d) 0 bw_z 2 tX3_up pc ls st μ
set_option maxRecDepth 20000 in
theorem qX3_up (d : Nat)  (μ : bwM) : bw_call (d + 1) 59 [.inr (.inr 0)] μ = some (some (.inr (.inl (μ.2 0 5))), μ) := by
  exact (bw_ex_go [] 4 0 _ _ _).trans rfl
noncomputable def eX3_down (d pc : Nat) (ls : List (Option bwV)) (st : List bwV) (μ : bwM) : Option bwR := bw_ex (bw_call d) 0 bw_z 2 tX3_down pc ls st μ
set_option maxRecDepth 20000 in
theorem qX3_down (d : Nat)  (μ : bwM) : bw_call (d + 1) 60 [.inr (.inr 0)] μ = some (some (.inr (.inl (μ.2 0 6))), μ) := by
  exact (bw_ex_go [] 4 0 _ _ _).trans rfl
noncomputable def eX3_most (d pc : Nat) (ls : List (Option bwV)) (st : List bwV) (μ : bwM) : Option bwR := bw_ex (bw_call d) 0 bw_z 1 tX3_most pc ls st μ
set_option maxRecDepth 20000 in
theorem qX3_most (d : Nat)  (x1 : Int32) (μ : bwM) : bw_call (d + 1) 61 [.inr (.inr 0), .inl x1] μ = bw_bI (bw_call d 17 [.inr (.inr 2), .inl x1] μ) none (fun r2 m1 => if r2 = 0 then some (some (.inl (-1 : Int32)), m1) else bw_bI (bw_call d 75 [.inr (.inr 0)] m1) none (fun r4 m3 => if r4 = 0 then eX3_most d 29 [some (.inr (.inr 0)), some (.inl x1), some (.inl r4), some (.inl (0 : Int32)), some (.inl (1 : Int32))] [] m3 else some (some (.inl r4), m3))) := by
  exact (bw_ex_go [29, 74, 77] 16 0 _ _ _).trans rfl
set_option maxRecDepth 20000 in
theorem qX3_most_29 (d : Nat)  (x1 x2 x3 x4 : Int32) (μ : bwM) : eX3_most d 29 [some (.inr (.inr 0)), some (.inl x1), some (.inl x2), some (.inl x3), some (.inl x4)] [] μ = if bw_in x1 12 then if (μ.1 3 x1.toNatClampNeg) ≤ x4 then some (some (.inl x3), μ) else bw_bI (bw_call d 80 [.inl x1, .inl x4] μ) none (fun r2 m1 => if bw_in r2 48 then bw_bI (bw_call d 80 [.inl x1, .inl x3] m1) none (fun r4 m3 => if bw_in r4 48 then if (lg_cmp (m1.2 27 r2.toNatClampNeg) (m3.2 27 r4.toNatClampNeg)) ≤ 0 then eX3_most d 77 [some (.inr (.inr 0)), some (.inl x1), some (.inl x2), some (.inl x3), some (.inl x4)] [] m3 else eX3_most d 74 [some (.inr (.inr 0)), some (.inl x1), some (.inl x2), some (.inl x3), some (.inl x4)] [] m3 else none) else none) else none := by
  exact (bw_ex_go [29, 74, 77] 25 29 _ _ _).trans rfl
set_option maxRecDepth 20000 in
theorem qX3_most_74 (d : Nat)  (x1 x2 x3 x4 : Int32) (μ : bwM) : eX3_most d 74 [some (.inr (.inr 0)), some (.inl x1), some (.inl x2), some (.inl x3), some (.inl x4)] [] μ = eX3_most d 77 [some (.inr (.inr 0)), some (.inl x1), some (.inl x2), some (.inl x4), some (.inl x4)] [] μ := by
  exact (bw_ex_go [29, 74, 77] 4 74 _ _ _).trans rfl
set_option maxRecDepth 20000 in
theorem qX3_most_77 (d : Nat)  (x1 x2 x3 x4 : Int32) (μ : bwM) : eX3_most d 77 [some (.inr (.inr 0)), some (.inl x1), some (.inl x2), some (.inl x3), some (.inl x4)] [] μ = eX3_most d 29 [some (.inr (.inr 0)), some (.inl x1), some (.inl x2), some (.inl x3), some (.inl (x4 + (1 : Int32)))] [] μ := by
  exact (bw_ex_go [29, 74, 77] 4 77 _ _ _).trans rfl
noncomputable def eX3_likeliest (d pc : Nat) (ls : List (Option bwV)) (st : List bwV) (μ : bwM) : Option bwR := bw_ex (bw_call d) 0 bw_z 1 tX3_likeliest pc ls st μ
set_option maxRecDepth 20000 in
theorem qX3_likeliest (d : Nat)  (x1 : Int32) (μ : bwM) : bw_call (d + 1) 62 [.inr (.inr 0), .inl x1] μ = if x1 < 0 then some (some (.inl (-1 : Int32)), μ) else if x1 < (10 : Int32) then bw_bI (bw_call d 28 [.inr (.inr 2)] μ) none (fun r2 m1 => if r2 = 0 then some (some (.inl (-4 : Int32)), m1) else bw_bV (bw_call d 7 [.inr (.inr 24), .inr (.inr 2), .inl (x1 + (1 : Int32))] m1) none (fun m3 => if x1 < (m3.1 24 5) then if bw_in x1 10 then bw_bV (bw_call d 78 [.inr (.inr 0), .inl (m3.1 29 x1.toNatClampNeg)] m3) none (fun m4 => if bw_in x1 10 then bw_bV (bw_call d 76 [.inr (.inr 0), .inr (.inl (m4.2 28 x1.toNatClampNeg)), .inr (.inl (m4.2 24 10))] m4) none (fun m5 => some (some (.inl (1 : Int32)), m5)) else none) else none else some (some (.inl (0 : Int32)), m3))) else some (some (.inl (-1 : Int32)), μ) := by
  exact (bw_ex_go [] 42 0 _ _ _).trans rfl
noncomputable def eX3_at (d pc : Nat) (ls : List (Option bwV)) (st : List bwV) (μ : bwM) : Option bwR := bw_ex (bw_call d) 0 bw_z 1 tX3_at pc ls st μ
set_option maxRecDepth 20000 in
theorem qX3_at (d : Nat)  (x1 : Int32) (μ : bwM) : bw_call (d + 1) 63 [.inr (.inr 0), .inl x1] μ = if x1 < 0 then some (some (.inl (-2 : Int32)), μ) else if (μ.1 0 4) ≤ x1 then some (some (.inl (-2 : Int32)), μ) else if bw_in x1 12 then some (some (.inl (μ.1 1 x1.toNatClampNeg)), μ) else none := by
  exact (bw_ex_go [] 13 0 _ _ _).trans rfl
noncomputable def eX3_wholes (d pc : Nat) (ls : List (Option bwV)) (st : List bwV) (μ : bwM) : Option bwR := bw_ex (bw_call d) 0 bw_z 1 tX3_wholes pc ls st μ
set_option maxRecDepth 20000 in
theorem qX3_wholes (d : Nat)  (μ : bwM) : bw_call (d + 1) 64 [.inr (.inr 0)] μ = bw_bI (bw_call d 28 [.inr (.inr 2)] μ) none (fun r2 m1 => if r2 = 0 then some (some (.inl (-4 : Int32)), m1) else bw_bV (bw_call d 5 [.inr (.inr 24), .inr (.inr 2)] m1) none (fun m3 => some (some (.inl (m3.1 24 9)), m3))) := by
  exact (bw_ex_go [] 14 0 _ _ _).trans rfl
noncomputable def eX3_apart (d pc : Nat) (ls : List (Option bwV)) (st : List bwV) (μ : bwM) : Option bwR := bw_ex (bw_call d) 0 bw_z 1 tX3_apart pc ls st μ
set_option maxRecDepth 20000 in
theorem qX3_apart (d : Nat)  (x1 x2 : Int32) (μ : bwM) : bw_call (d + 1) 65 [.inr (.inr 0), .inl x1, .inl x2] μ = bw_bI (bw_call d 17 [.inr (.inr 2), .inl x1] μ) none (fun r2 m1 => if r2 = 0 then some (some (.inl (-1 : Int32)), m1) else bw_bI (bw_call d 17 [.inr (.inr 2), .inl x2] m1) none (fun r4 m3 => if r4 = 0 then some (some (.inl (-1 : Int32)), m3) else if x1 = x2 then some (some (.inl (0 : Int32)), m3) else bw_bI (bw_call d 36 [.inr (.inr 2), .inl x1, .inl x2] m3) none (fun r6 m5 => if r6 = 0 then some (some (.inl (1 : Int32)), m5) else some (some (.inl (0 : Int32)), m5)))) := by
  exact (bw_ex_go [] 23 0 _ _ _).trans rfl
noncomputable def eX3_options (d pc : Nat) (ls : List (Option bwV)) (st : List bwV) (μ : bwM) : Option bwR := bw_ex (bw_call d) 0 bw_z 1 tX3_options pc ls st μ
set_option maxRecDepth 20000 in
theorem qX3_options (d : Nat)  (x1 : Int32) (μ : bwM) : bw_call (d + 1) 66 [.inr (.inr 0), .inl x1] μ = if x1 < 0 then some (some (.inl (-1 : Int32)), μ) else if x1 ≤ (6 : Int32) then bw_bV (bw_call d 74 [.inr (.inr 0), .inl (6 : Int32), .inl x1, .inl (0 : Int32), .inl (0 : Int32), .inl (0 : Int32)] μ) none (fun m1 => some (some (.inl (μ.1 2 1)), m1)) else some (some (.inl (-1 : Int32)), μ) := by
  exact (bw_ex_go [] 19 0 _ _ _).trans rfl
noncomputable def eX3_worth (d pc : Nat) (ls : List (Option bwV)) (st : List bwV) (μ : bwM) : Option bwR := bw_ex (bw_call d) 0 bw_z 1 tX3_worth pc ls st μ
set_option maxRecDepth 20000 in
theorem qX3_worth (d : Nat)  (x1 x2 x3 x4 : Int32) (μ : bwM) : bw_call (d + 1) 67 [.inr (.inr 0), .inl x1, .inl x2, .inl x3, .inl x4] μ = bw_bI (bw_call d 21 [.inr (.inr 2), .inl x1] μ) none (fun r2 m1 => if r2 = 0 then some (some (.inl (10000 : Int32)), m1) else bw_bI (bw_call d 18 [.inr (.inr 2), .inl x2, .inl x3] m1) none (fun r4 m3 => if r4 = 0 then some (some (.inl (10000 : Int32)), m3) else if x4 < (-500 : Int32) then some (some (.inl (10000 : Int32)), m3) else if x4 ≤ (500 : Int32) then bw_bI (bw_call d 82 [.inl x1, .inl x2, .inl x3] m3) none (fun r6 m5 => if bw_in r6 288 then eX3_worth d 59 [some (.inr (.inr 0)), some (.inl x1), some (.inl x2), some (.inl x3), some (.inl x4), some (.inl (m5.1 11 r6.toNatClampNeg))] [] m5 else none) else some (some (.inl (10000 : Int32)), m3))) := by
  exact (bw_ex_go [59] 28 0 _ _ _).trans rfl
set_option maxRecDepth 20000 in
theorem qX3_worth_59 (d : Nat)  (x1 x2 x3 x4 x5 : Int32) (μ : bwM) : eX3_worth d 59 [some (.inr (.inr 0)), some (.inl x1), some (.inl x2), some (.inl x3), some (.inl x4), some (.inl x5)] [] μ = bw_bV (bw_call d 74 [.inr (.inr 0), .inl (7 : Int32), .inl x1, .inl x2, .inl x3, .inl x4] μ) none (fun m1 => some (some (.inl x5), m1)) := by
  exact (bw_ex_go [59] 10 59 _ _ _).trans rfl
noncomputable def eX3_expected (d pc : Nat) (ls : List (Option bwV)) (st : List bwV) (μ : bwM) : Option bwR := bw_ex (bw_call d) 0 bw_z 1 tX3_expected pc ls st μ
set_option maxRecDepth 20000 in
theorem qX3_expected (d : Nat)  (x1 : Int32) (μ : bwM) : bw_call (d + 1) 68 [.inr (.inr 0), .inl x1] μ = bw_bI (bw_call d 21 [.inr (.inr 2), .inl x1] μ) none (fun r2 m1 => if r2 = 0 then some (some (.inl (-1 : Int32)), m1) else bw_bI (bw_call d 75 [.inr (.inr 0)] m1) none (fun r4 m3 => if r4 = 0 then bw_bL (bw_call d 14 [.inr (.inr 24), .inr (.inr 2), .inl x1] m3) none (fun r6 m5 => bw_bV (bw_call d 76 [.inr (.inr 0), .inr (.inl r6), .inr (.inl (m5.2 24 10))] m5) none (fun m7 => some (some (.inl (1 : Int32)), m7))) else some (some (.inl r4), m3))) := by
  exact (bw_ex_go [] 24 0 _ _ _).trans rfl
noncomputable def eX3_best (d pc : Nat) (ls : List (Option bwV)) (st : List bwV) (μ : bwM) : Option bwR := bw_ex (bw_call d) 0 bw_z 1 tX3_best pc ls st μ
set_option maxRecDepth 20000 in
theorem qX3_best (d : Nat)  (μ : bwM) : bw_call (d + 1) 69 [.inr (.inr 0)] μ = if (μ.1 2 1) = 0 then some (some (.inl (-1 : Int32)), μ) else bw_bI (bw_call d 75 [.inr (.inr 0)] μ) none (fun r2 m1 => if r2 = 0 then bw_bI (bw_call d 15 [.inr (.inr 24), .inr (.inr 2)] m1) none (fun r4 m3 => bw_bL (bw_call d 14 [.inr (.inr 24), .inr (.inr 2), .inl r4] m3) none (fun r6 m5 => bw_bV (bw_call d 76 [.inr (.inr 0), .inr (.inl r6), .inr (.inl (m5.2 24 10))] m5) none (fun m7 => some (some (.inl r4), m7)))) else some (some (.inl r2), m1)) := by
  exact (bw_ex_go [] 29 0 _ _ _).trans rfl
noncomputable def eX3_gain (d pc : Nat) (ls : List (Option bwV)) (st : List bwV) (μ : bwM) : Option bwR := bw_ex (bw_call d) 0 bw_z 1 tX3_gain pc ls st μ
set_option maxRecDepth 20000 in
theorem qX3_gain (d : Nat)  (x1 : Int32) (μ : bwM) : bw_call (d + 1) 70 [.inr (.inr 0), .inl x1] μ = bw_bI (bw_call d 17 [.inr (.inr 2), .inl x1] μ) none (fun r2 m1 => if r2 = 0 then some (some (.inl (-1 : Int32)), m1) else if (m1.1 2 1) = 0 then some (some (.inl (-1 : Int32)), m1) else bw_bI (bw_call d 75 [.inr (.inr 0)] m1) none (fun r4 m3 => eX3_gain d 28 [some (.inr (.inr 0)), some (.inl x1), some (.inl r4), none, none, none, none] [] m3)) := by
  exact (bw_ex_go [28, 55, 78] 14 0 _ _ _).trans rfl
set_option maxRecDepth 20000 in
theorem qX3_gain_28 (d : Nat)  (x1 x2 : Int32) (μ : bwM) : eX3_gain d 28 [some (.inr (.inr 0)), some (.inl x1), some (.inl x2), none, none, none, none] [] μ = if x2 = 0 then bw_bL (bw_call d 16 [.inr (.inr 24), .inr (.inr 2)] μ) none (fun r2 m1 => eX3_gain d 55 [some (.inr (.inr 0)), some (.inl x1), some (.inl x2), some (.inr (.inl (μ.2 24 10))), none, some (.inr (.inl r2)), none] [] m1) else some (some (.inl x2), μ) := by
  exact (bw_ex_go [28, 55, 78] 14 28 _ _ _).trans rfl
set_option maxRecDepth 20000 in
theorem qX3_gain_55 (d : Nat)  (x1 x2 : Int32) (y3 y5 : Int64) (μ : bwM) : eX3_gain d 55 [some (.inr (.inr 0)), some (.inl x1), some (.inl x2), some (.inr (.inl y3)), none, some (.inr (.inl y5)), none] [] μ = bw_bI (bw_call d 22 [.inr (.inr 2), .inl x1] μ) none (fun r2 m1 => if r2 = 0 then eX3_gain d 78 [some (.inr (.inr 0)), some (.inl x1), some (.inl x2), some (.inr (.inl y3)), none, some (.inr (.inl y5)), none] [.inr (.inl (Int64.ofNat 0)), .inr (.inr 0)] m1 else bw_bL (bw_call d 79 [.inr (.inr 0), .inl x1, .inr (.inl y5)] m1) none (fun r4 m3 => eX3_gain d 78 [some (.inr (.inr 0)), some (.inl x1), some (.inl x2), some (.inr (.inl y3)), none, some (.inr (.inl y5)), none] [.inr (.inl r4), .inr (.inr 0)] m3)) := by
  exact (bw_ex_go [28, 55, 78] 13 55 _ _ _).trans rfl
set_option maxRecDepth 20000 in
theorem qX3_gain_78 (d : Nat)  (x1 x2 : Int32) (y3 y5 s1 : Int64) (μ : bwM) : eX3_gain d 78 [some (.inr (.inr 0)), some (.inl x1), some (.inl x2), some (.inr (.inl y3)), none, some (.inr (.inl y5)), none] [.inr (.inl s1), .inr (.inr 0)] μ = bw_bV (bw_call d 76 [.inr (.inr 0), .inr (.inl s1), .inr (.inl y3)] μ) none (fun m1 => some (some (.inl (1 : Int32)), m1)) := by
  exact (bw_ex_go [28, 55, 78] 5 78 _ _ _).trans rfl
noncomputable def eX3_next (d pc : Nat) (ls : List (Option bwV)) (st : List bwV) (μ : bwM) : Option bwR := bw_ex (bw_call d) 0 bw_z 1 tX3_next pc ls st μ
set_option maxRecDepth 20000 in
theorem qX3_next (d : Nat)  (μ : bwM) : bw_call (d + 1) 71 [.inr (.inr 0)] μ = if (μ.1 2 1) = 0 then some (some (.inl (-1 : Int32)), μ) else bw_bI (bw_call d 75 [.inr (.inr 0)] μ) none (fun r2 m1 => if r2 = 0 then eX3_next d 31 [some (.inr (.inr 0)), some (.inl r2), some (.inr (.inl (m1.2 24 10))), none, none, none, none, none, none, none, none, none] [] m1 else some (some (.inl r2), m1)) := by
  exact (bw_ex_go [31, 54, 88, 103, 111] 15 0 _ _ _).trans rfl
set_option maxRecDepth 20000 in
theorem qX3_next_31 (d : Nat)  (x1 : Int32) (y2 : Int64) (μ : bwM) : eX3_next d 31 [some (.inr (.inr 0)), some (.inl x1), some (.inr (.inl y2)), none, none, none, none, none, none, none, none, none] [] μ = bw_bL (bw_call d 16 [.inr (.inr 24), .inr (.inr 2)] μ) none (fun r2 m1 => eX3_next d 54 [some (.inr (.inr 0)), some (.inl x1), some (.inr (.inl y2)), none, some (.inr (.inl r2)), none, some (.inl (-6 : Int32)), some (.inr (.inl (Int64.ofNat 0))), none, some (.inl (0 : Int32)), none, none] [] m1) := by
  exact (bw_ex_go [31, 54, 88, 103, 111] 14 31 _ _ _).trans rfl
set_option maxRecDepth 20000 in
theorem qX3_next_54 (d : Nat)  (x1 x6 x9 : Int32) (y2 y4 y7 : Int64) (μ : bwM) : eX3_next d 54 [some (.inr (.inr 0)), some (.inl x1), some (.inr (.inl y2)), none, some (.inr (.inl y4)), none, some (.inl x6), some (.inr (.inl y7)), none, some (.inl x9), none, none] [] μ = if (μ.1 2 0) ≤ x9 then if x6 = (-6 : Int32) then some (some (.inl x6), μ) else bw_bV (bw_call d 76 [.inr (.inr 0), .inr (.inl y7), .inr (.inl y2)] μ) none (fun m1 => some (some (.inl x6), m1)) else bw_bI (bw_call d 22 [.inr (.inr 2), .inl x9] μ) none (fun r3 m2 => if r3 = 0 then eX3_next d 111 [some (.inr (.inr 0)), some (.inl x1), some (.inr (.inl y2)), none, some (.inr (.inl y4)), none, some (.inl x6), some (.inr (.inl y7)), none, some (.inl x9), none, none] [] m2 else bw_bL (bw_call d 79 [.inr (.inr 0), .inl x9, .inr (.inl y4)] m2) none (fun r5 m4 => eX3_next d 88 [some (.inr (.inr 0)), some (.inl x1), some (.inr (.inl y2)), none, some (.inr (.inl y4)), none, some (.inl x6), some (.inr (.inl y7)), none, some (.inl x9), some (.inr (.inl r5)), none] [] m4)) := by
  exact (bw_ex_go [31, 54, 88, 103, 111] 17 54 _ _ _).trans rfl
set_option maxRecDepth 20000 in
theorem qX3_next_88 (d : Nat)  (x1 x6 x9 : Int32) (y2 y4 y7 y10 : Int64) (μ : bwM) : eX3_next d 88 [some (.inr (.inr 0)), some (.inl x1), some (.inr (.inl y2)), none, some (.inr (.inl y4)), none, some (.inl x6), some (.inr (.inl y7)), none, some (.inl x9), some (.inr (.inl y10)), none] [] μ = if x6 = (-6 : Int32) then eX3_next d 103 [some (.inr (.inr 0)), some (.inl x1), some (.inr (.inl y2)), none, some (.inr (.inl y4)), none, some (.inl x6), some (.inr (.inl y7)), none, some (.inl x9), some (.inr (.inl y10)), none] [] μ else if (lg_cmp y10 y7) ≤ 0 then eX3_next d 111 [some (.inr (.inr 0)), some (.inl x1), some (.inr (.inl y2)), none, some (.inr (.inl y4)), none, some (.inl x6), some (.inr (.inl y7)), none, some (.inl x9), some (.inr (.inl y10)), none] [] μ else eX3_next d 103 [some (.inr (.inr 0)), some (.inl x1), some (.inr (.inl y2)), none, some (.inr (.inl y4)), none, some (.inl x6), some (.inr (.inl y7)), none, some (.inl x9), some (.inr (.inl y10)), none] [] μ := by
  exact (bw_ex_go [31, 54, 88, 103, 111] 9 88 _ _ _).trans rfl
set_option maxRecDepth 20000 in
theorem qX3_next_103 (d : Nat)  (x1 x6 x9 : Int32) (y2 y4 y7 y10 : Int64) (μ : bwM) : eX3_next d 103 [some (.inr (.inr 0)), some (.inl x1), some (.inr (.inl y2)), none, some (.inr (.inl y4)), none, some (.inl x6), some (.inr (.inl y7)), none, some (.inl x9), some (.inr (.inl y10)), none] [] μ = eX3_next d 111 [some (.inr (.inr 0)), some (.inl x1), some (.inr (.inl y2)), none, some (.inr (.inl y4)), none, some (.inl x9), some (.inr (.inl y10)), none, some (.inl x9), some (.inr (.inl y10)), none] [] μ := by
  exact (bw_ex_go [31, 54, 88, 103, 111] 6 103 _ _ _).trans rfl
set_option maxRecDepth 20000 in
theorem qX3_next_111 (d : Nat)  (x1 x6 x9 : Int32) (y2 y4 y7 : Int64) (o10 : Option bwV) (μ : bwM) : eX3_next d 111 [some (.inr (.inr 0)), some (.inl x1), some (.inr (.inl y2)), none, some (.inr (.inl y4)), none, some (.inl x6), some (.inr (.inl y7)), none, some (.inl x9), o10, none] [] μ = eX3_next d 54 [some (.inr (.inr 0)), some (.inl x1), some (.inr (.inl y2)), none, some (.inr (.inl y4)), none, some (.inl x6), some (.inr (.inl y7)), none, some (.inl (x9 + (1 : Int32))), none, none] [] μ := by
  exact (bw_ex_go [31, 54, 88, 103, 111] 4 111 _ _ _).trans rfl
noncomputable def eX3_undo (d pc : Nat) (ls : List (Option bwV)) (st : List bwV) (μ : bwM) : Option bwR := bw_ex (bw_call d) 0 bw_z 1 tX3_undo pc ls st μ
set_option maxRecDepth 20000 in
theorem qX3_undo (d : Nat)  (μ : bwM) : bw_call (d + 1) 72 [.inr (.inr 0)] μ = if (μ.1 22 3) = 0 then some (some (.inl (-1 : Int32)), μ) else bw_bV (bw_call d 2 [.inr (.inr 22), .inr (.inr 2)] μ) none (fun m1 => some (some (.inl (m1.1 22 3)), m1)) := by
  exact (bw_ex_go [] 14 0 _ _ _).trans rfl
noncomputable def eX3_count (d pc : Nat) (ls : List (Option bwV)) (st : List bwV) (μ : bwM) : Option bwR := bw_ex (bw_call d) 0 bw_z 1 tX3_count pc ls st μ
set_option maxRecDepth 20000 in
theorem qX3_count (d : Nat)  (x1 : Int32) (μ : bwM) : bw_call (d + 1) 73 [.inr (.inr 0), .inl x1] μ = if x1 = (0 : Int32) then some (some (.inl (μ.1 2 0)), μ) else if x1 = (1 : Int32) then bw_bI (bw_call d 25 [.inr (.inr 2)] μ) none (fun r2 m1 => some (some (.inl r2), m1)) else if x1 = (2 : Int32) then some (some (.inl (μ.1 2 1)), μ) else if x1 = (3 : Int32) then some (some (.inl (μ.1 22 3)), μ) else some (some (.inl (-1 : Int32)), μ) := by
  exact (bw_ex_go [] 7 0 _ _ _).trans rfl
noncomputable def eX3_carryOut (d pc : Nat) (ls : List (Option bwV)) (st : List bwV) (μ : bwM) : Option bwR := bw_ex (bw_call d) 0 bw_z 0 tX3_carryOut pc ls st μ
set_option maxRecDepth 20000 in
theorem qX3_carryOut (d : Nat)  (x1 x2 x3 x4 x5 : Int32) (μ : bwM) : bw_call (d + 1) 74 [.inr (.inr 0), .inl x1, .inl x2, .inl x3, .inl x4, .inl x5] μ = bw_bV (bw_call d 1 [.inr (.inr 22), .inl x1, .inl x2, .inl x3, .inl x4, .inl x5] μ) none (fun m1 => bw_bV (bw_call d 38 [.inr (.inr 2), .inl x1, .inl x2, .inl x3, .inl x4, .inl x5] m1) none (fun m2 => some (none, m2))) := by
  exact (bw_ex_go [] 18 0 _ _ _).trans rfl
noncomputable def eX3_trouble (d pc : Nat) (ls : List (Option bwV)) (st : List bwV) (μ : bwM) : Option bwR := bw_ex (bw_call d) 0 bw_z 1 tX3_trouble pc ls st μ
set_option maxRecDepth 20000 in
theorem qX3_trouble (d : Nat)  (μ : bwM) : bw_call (d + 1) 75 [.inr (.inr 0)] μ = bw_bI (bw_call d 28 [.inr (.inr 2)] μ) none (fun r2 m1 => if r2 = 0 then some (some (.inl (-4 : Int32)), m1) else bw_bV (bw_call d 5 [.inr (.inr 24), .inr (.inr 2)] m1) none (fun m3 => if (lg_cmp (m3.2 24 10) (Int64.ofNat 0)) = 0 then some (some (.inl (-5 : Int32)), m3) else some (some (.inl (0 : Int32)), m3))) := by
  exact (bw_ex_go [] 19 0 _ _ _).trans rfl
noncomputable def eX3_tell (d pc : Nat) (ls : List (Option bwV)) (st : List bwV) (μ : bwM) : Option bwR := bw_ex (bw_call d) 0 bw_z 0 tX3_tell pc ls st μ
set_option maxRecDepth 20000 in
theorem qX3_tell (d : Nat)  (y1 y3 : Int64) (μ : bwM) : bw_call (d + 1) 76 [.inr (.inr 0), .inr (.inl y1), .inr (.inl y3)] μ = if 0 < (lg_cmp y3 (Int64.ofNat 0)) then bw_bL (bw_call d 77 [.inr (.inl (if 0 < y1 then y1 else -y1)), .inr (.inl y3)] μ) none (fun r2 m1 => if (lg_cmp r2 (Int64.ofNat 0)) ≤ 0 then some (none, m1) else eX3_tell d 24 [some (.inr (.inr 0)), some (.inr (.inl y1)), none, some (.inr (.inl y3)), none, some (.inr (.inl r2)), none] [] m1) else some (none, μ) := by
  exact (bw_ex_go [24] 15 0 _ _ _).trans rfl
set_option maxRecDepth 20000 in
theorem qX3_tell_24 (d : Nat)  (y1 y3 y5 : Int64) (μ : bwM) : eX3_tell d 24 [some (.inr (.inr 0)), some (.inr (.inl y1)), none, some (.inr (.inl y3)), none, some (.inr (.inl y5)), none] [] μ = if y5 = 0 then none else if y5 = 0 then none else some (none, bw_sl (bw_sl μ 0 5 (y1 / y5)) 0 6 (y3 / y5)) := by
  exact (bw_ex_go [24] 12 24 _ _ _).trans rfl
noncomputable def eX3_commonDivisor (d pc : Nat) (ls : List (Option bwV)) (st : List bwV) (μ : bwM) : Option bwR := bw_ex (bw_call d) 0 bw_z 2 tX3_commonDivisor pc ls st μ
set_option maxRecDepth 20000 in
theorem qX3_commonDivisor (d : Nat)  (y0 y2 : Int64) (μ : bwM) : bw_call (d + 1) 77 [.inr (.inl y0), .inr (.inl y2)] μ = eX3_commonDivisor d 9 [some (.inr (.inl y0)), none, some (.inr (.inl y2)), none, some (.inr (.inl y0)), none, some (.inr (.inl y2)), none, some (.inl (0 : Int32)), none, none] [] μ := by
  exact (bw_ex_go [9, 34] 8 0 _ _ _).trans rfl
set_option maxRecDepth 20000 in
theorem qX3_commonDivisor_9 (d : Nat)  (x8 : Int32) (y0 y2 y4 y6 : Int64) (o9 : Option bwV) (μ : bwM) : eX3_commonDivisor d 9 [some (.inr (.inl y0)), none, some (.inr (.inl y2)), none, some (.inr (.inl y4)), none, some (.inr (.inl y6)), none, some (.inl x8), o9, none] [] μ = if (100 : Int32) ≤ x8 then some (some (.inr (.inl y4)), μ) else if (lg_cmp y6 (Int64.ofNat 0)) = 0 then some (some (.inr (.inl y4)), μ) else if y6 = 0 then none else eX3_commonDivisor d 34 [some (.inr (.inl y0)), none, some (.inr (.inl y2)), none, some (.inr (.inl y6)), none, some (.inr (.inl y6)), none, some (.inl x8), some (.inr (.inl (y4 - y4 / y6 * y6))), none] [] μ := by
  exact (bw_ex_go [9, 34] 15 9 _ _ _).trans rfl
set_option maxRecDepth 20000 in
theorem qX3_commonDivisor_34 (d : Nat)  (x8 : Int32) (y0 y2 y4 y6 y9 : Int64) (μ : bwM) : eX3_commonDivisor d 34 [some (.inr (.inl y0)), none, some (.inr (.inl y2)), none, some (.inr (.inl y4)), none, some (.inr (.inl y6)), none, some (.inl x8), some (.inr (.inl y9)), none] [] μ = eX3_commonDivisor d 9 [some (.inr (.inl y0)), none, some (.inr (.inl y2)), none, some (.inr (.inl y4)), none, some (.inr (.inl y9)), none, some (.inl (x8 + (1 : Int32))), some (.inr (.inl y9)), none] [] μ := by
  exact (bw_ex_go [9, 34] 6 34 _ _ _).trans rfl
noncomputable def eX3_show (d pc : Nat) (ls : List (Option bwV)) (st : List bwV) (μ : bwM) : Option bwR := bw_ex (bw_call d) 0 bw_z 0 tX3_show pc ls st μ
set_option maxRecDepth 20000 in
theorem qX3_show (d : Nat)  (x1 : Int32) (μ : bwM) : bw_call (d + 1) 78 [.inr (.inr 0), .inl x1] μ = eX3_show d 20 [some (.inr (.inr 0)), some (.inl x1), some (.inl x1), some (.inl (((bw_si μ 0 4 (μ.1 2 0)).1 0 4) - (1 : Int32)))] [] (bw_si μ 0 4 (μ.1 2 0)) := by
  exact (bw_ex_go [20] 14 0 _ _ _).trans rfl
set_option maxRecDepth 20000 in
theorem qX3_show_20 (d : Nat)  (x1 x2 x3 : Int32) (μ : bwM) : eX3_show d 20 [some (.inr (.inr 0)), some (.inl x1), some (.inl x2), some (.inl x3)] [] μ = if x3 < 0 then some (none, μ) else if bw_in x3 12 then eX3_show d 20 [some (.inr (.inr 0)), some (.inl x1), some (.inl (x2 >>> ((2 : Int32) &&& 31))), some (.inl (x3 + (-1 : Int32)))] [] (bw_si μ 1 x3.toNatClampNeg (x2 &&& (3 : Int32))) else none := by
  exact (bw_ex_go [20] 17 20 _ _ _).trans rfl
noncomputable def eX3_gainSum (d pc : Nat) (ls : List (Option bwV)) (st : List bwV) (μ : bwM) : Option bwR := bw_ex (bw_call d) 0 bw_z 2 tX3_gainSum pc ls st μ
set_option maxRecDepth 20000 in
theorem qX3_gainSum (d : Nat)  (x1 : Int32) (y2 : Int64) (μ : bwM) : bw_call (d + 1) 79 [.inr (.inr 0), .inl x1, .inr (.inl y2)] μ = eX3_gainSum d 6 [some (.inr (.inr 0)), some (.inl x1), some (.inr (.inl y2)), none, some (.inr (.inl (Int64.ofNat 0))), none, some (.inl (0 : Int32))] [] μ := by
  exact (bw_ex_go [6, 34] 6 0 _ _ _).trans rfl
set_option maxRecDepth 20000 in
theorem qX3_gainSum_6 (d : Nat)  (x1 x6 : Int32) (y2 y4 : Int64) (μ : bwM) : eX3_gainSum d 6 [some (.inr (.inr 0)), some (.inl x1), some (.inr (.inl y2)), none, some (.inr (.inl y4)), none, some (.inl x6)] [] μ = if bw_in x1 12 then if (μ.1 3 x1.toNatClampNeg) ≤ x6 then some (some (.inr (.inl (y4 - y2))), μ) else bw_bV (bw_call d 6 [.inr (.inr 24), .inr (.inr 2), .inl x1, .inl x6] μ) none (fun m1 => eX3_gainSum d 34 [some (.inr (.inr 0)), some (.inl x1), some (.inr (.inl y2)), none, some (.inr (.inl y4)), none, some (.inl x6)] [] m1) else none := by
  exact (bw_ex_go [6, 34] 16 6 _ _ _).trans rfl
set_option maxRecDepth 20000 in
theorem qX3_gainSum_34 (d : Nat)  (x1 x6 : Int32) (y2 y4 : Int64) (μ : bwM) : eX3_gainSum d 34 [some (.inr (.inr 0)), some (.inl x1), some (.inr (.inl y2)), none, some (.inr (.inl y4)), none, some (.inl x6)] [] μ = bw_bL (bw_call d 16 [.inr (.inr 24), .inr (.inr 2)] μ) none (fun r2 m1 => eX3_gainSum d 6 [some (.inr (.inr 0)), some (.inl x1), some (.inr (.inl y2)), none, some (.inr (.inl (y4 + r2))), none, some (.inl (x6 + (1 : Int32)))] [] m1) := by
  exact (bw_ex_go [6, 34] 12 34 _ _ _).trans rfl
noncomputable def eX3_slot (d pc : Nat) (ls : List (Option bwV)) (st : List bwV) (μ : bwM) : Option bwR := bw_ex (bw_call d) 0 bw_z 1 tX3_slot pc ls st μ
set_option maxRecDepth 20000 in
theorem qX3_slot (d : Nat)  (x0 x1 : Int32) (μ : bwM) : bw_call (d + 1) 80 [.inl x0, .inl x1] μ = some (some (.inl ((x0 * (4 : Int32)) + x1)), μ) := by
  exact (bw_ex_go [] 7 0 _ _ _).trans rfl
noncomputable def eX3_weightSlot (d pc : Nat) (ls : List (Option bwV)) (st : List bwV) (μ : bwM) : Option bwR := bw_ex (bw_call d) 0 bw_z 1 tX3_weightSlot pc ls st μ
set_option maxRecDepth 20000 in
theorem qX3_weightSlot (d : Nat)  (x0 x1 x2 : Int32) (μ : bwM) : bw_call (d + 1) 81 [.inl x0, .inl x1, .inl x2] μ = some (some (.inl (((x0 * (256 : Int32)) + (x1 * (4 : Int32))) + x2)), μ) := by
  exact (bw_ex_go [] 11 0 _ _ _).trans rfl
noncomputable def eX3_worthSlot (d pc : Nat) (ls : List (Option bwV)) (st : List bwV) (μ : bwM) : Option bwR := bw_ex (bw_call d) 0 bw_z 1 tX3_worthSlot pc ls st μ
set_option maxRecDepth 20000 in
theorem qX3_worthSlot (d : Nat)  (x0 x1 x2 : Int32) (μ : bwM) : bw_call (d + 1) 82 [.inl x0, .inl x1, .inl x2] μ = bw_bI (bw_call d 80 [.inl x1, .inl x2] μ) none (fun r2 m1 => some (some (.inl ((x0 * (48 : Int32)) + r2)), m1)) := by
  exact (bw_ex_go [] 9 0 _ _ _).trans rfl
noncomputable def eX3_parentSlot (d pc : Nat) (ls : List (Option bwV)) (st : List bwV) (μ : bwM) : Option bwR := bw_ex (bw_call d) 0 bw_z 1 tX3_parentSlot pc ls st μ
set_option maxRecDepth 20000 in
theorem qX3_parentSlot (d : Nat)  (x0 x1 : Int32) (μ : bwM) : bw_call (d + 1) 83 [.inl x0, .inl x1] μ = some (some (.inl ((x0 * (3 : Int32)) + x1)), μ) := by
  exact (bw_ex_go [] 7 0 _ _ _).trans rfl
noncomputable def eX3_isIn (d pc : Nat) (ls : List (Option bwV)) (st : List bwV) (μ : bwM) : Option bwR := bw_ex (bw_call d) 0 bw_z 3 tX3_isIn pc ls st μ
set_option maxRecDepth 20000 in
theorem qX3_isIn (d : Nat)  (x0 x1 : Int32) (μ : bwM) : bw_call (d + 1) 84 [.inl x0, .inl x1] μ = if ((x0 >>> (x1 &&& 31)) &&& (1 : Int32)) = 0 then if (0 : Int32) = 0 ∨ (0 : Int32) = 1 then some (some (.inl (0 : Int32)), μ) else none else if (1 : Int32) = 0 ∨ (1 : Int32) = 1 then some (some (.inl (1 : Int32)), μ) else none := by
  exact (bw_ex_go [] 10 0 _ _ _).trans rfl
