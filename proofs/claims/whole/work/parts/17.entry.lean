/-! THE LAW'S ENTRY: what the tables' words say of the classes. -/
theorem bw_arr {args : Array Value} {s : State} {ty : FieldType} (harr : (Cond.arrayClass ty).before args s = true) : ∃ (cA : ClassId), ArrOfT s cA ty ∧ s.vm.findClass ("[" ++ ty.toString) = some cA := by
  obtain ⟨cA, kA, comp, hfind, hk, hkind⟩ := Cond.arrayClass_spec harr
  exact ⟨cA, fun n z => ⟨fun k h => (by cases h), kA, hk, comp, hkind⟩, hfind⟩
theorem bw_inst0 : lw_tbl[112]? = some (.instantiable RX0 4) := by decide +kernel
theorem bw_inst1 : lw_tbl[134]? = some (.instantiable RX1 11) := by decide +kernel
theorem bw_inst2 : lw_tbl[56]? = some (.instantiable RX2 11) := by decide +kernel
theorem bw_inst3 : lw_tbl[48]? = some (.instantiable RX3 7) := by decide +kernel
theorem bw_inst4 : lw_tbl[564]? = some (.instantiable RX4 31) := by decide +kernel
theorem bw_entry {args : Array Value} {s : State} (hts : ∀ w ∈ lw_tbl, w.before args s = true) : ∃ (D : va_G) (cI cJ cZ : ClassId), va_K D vwCl (bw_tys cI cJ cZ) s ∧ bw_Nst s := by
  have hws : ∀ w ∈ bw_ws, w.before args s = true := fun w h => hts w (List.mem_filter.mp h).1
  have hi : ∀ (i : Nat) (w : Cond), lw_tbl[i]? = some w → w.before args s = true := fun i w h => hts w (List.mem_of_getElem? h)
  obtain ⟨c0, i0, k0⟩ := u_known (C := RX0) (T := TX0) (N := 4) (n := 4) hts inX0 (hi _ _ bw_inst0)
  obtain ⟨c1, i1, k1⟩ := u_known (C := RX1) (T := TX1) (N := 11) (n := 11) hts inX1 (hi _ _ bw_inst1)
  obtain ⟨c2, i2, k2⟩ := u_known (C := RX2) (T := TX2) (N := 11) (n := 11) hts inX2 (hi _ _ bw_inst2)
  obtain ⟨c3, i3, k3⟩ := u_known (C := RX3) (T := TX3) (N := 7) (n := 7) hts inX3 (hi _ _ bw_inst3)
  obtain ⟨c4, i4, k4⟩ := u_known (C := RX4) (T := TX4) (N := 31) (n := 31) hts inX4 (hi _ _ bw_inst4)
  obtain ⟨cI, aI, fI⟩ := bw_arr (ty := .int) (hts _ (bw_sys_in _ (by simp [bw_sys])))
  obtain ⟨cJ, aJ, fJ⟩ := bw_arr (ty := .long) (hts _ (bw_sys_in _ (by simp [bw_sys])))
  obtain ⟨cZ, aZ, fZ⟩ := bw_arr (ty := .boolean) (hts _ (bw_sys_in _ (by simp [bw_sys])))
  refine ⟨(fun k => [c0, c1, c2, c3, c4].getD k 0, fun k => [i0, i1, i2, i3, i4].getD k i0), cI, cJ, cZ, ⟨fun k q hq => ?_, fun k q hq => ?_⟩, fun n i y hy => va_Nw.of rfl (hts _ hy)⟩
  · match k, hq with
    | 0, hq => cases hq; exact k0
    | 1, hq => cases hq; exact k1
    | 2, hq => cases hq; exact k2
    | 3, hq => cases hq; exact k3
    | 4, hq => cases hq; exact k4
    | k + 5, hq => simp [vwCl] at hq
  · match k, hq with
    | 0, hq => cases hq; exact ⟨aI, fI⟩
    | 1, hq => cases hq; exact ⟨aJ, fJ⟩
    | 2, hq => cases hq; exact ⟨aZ, fZ⟩
    | k + 3, hq => simp [bw_tys] at hq
