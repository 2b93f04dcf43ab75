/-- the addresses of the cells by their numbers; 60 the script -/
def bw_ad (b n0 n1 : Nat) (u v : Nat → Nat) (o : Nat) : Nat := [n0, (u 28), (u 0), (u 1), (u 2), (u 3), (u 4), (u 5), (u 6), (u 7), (u 8), (u 9), (u 11), (u 12), (u 13), (u 14), (u 15), (u 16), (u 17), (u 18), (u 19), (u 20), (u 10), (u 21), (u 22), (u 23), (u 24), (u 25), (u 26), (u 27), n1, (v 0), (v 1), (v 2), (v 3), (v 4), (v 5), (v 6), (v 7), (v 8), (v 9), (v 10), (v 11), (v 12), (v 13), (v 14), (v 15), (v 16), (v 17), (v 18), (v 19), (v 20), (v 21)].getD o b
set_option maxHeartbeats 4000000 in
set_option maxRecDepth 100000 in
/-- THE CLAIM OUT OF A PURE STATEMENT of the abstract machine -/
theorem bw_whole (hpure : ∀ (L : Nat) (sx : Nat → Int32), L ≤ 2560 → ∃ μ', eL_law 60 L sx 16 [some (.inr (.inr 60)), some (.inr (.inr 0)), some (.inr (.inr 30)), none] [] bw_mu0 = some (some (.inl 1), μ')) {p : Program} {e : Env} {s : State} {m : MethodId} {below : List Frame} {meth : Method} {c : Code} (l : Launch) {b L : Nat} {xs : Nat → Int32} (hL : L ≤ 2560) (C0 : lw_At p s m meth c b L xs) : W p l e room_1 s m #[Value.ref b] below meth c s.heap [] 0 0 (lw_Z below #[Value.ref b] s) (entryFrame m ([Value.ref b] : List Value).toArray 4) := by
  obtain ⟨hx, hb, hr, hml, hown, hts, hX, hbl, hlocks, hgv⟩ := id C0
  obtain ⟨μ', hμ⟩ := hpure L xs hL
  obtain ⟨n, hn⟩ := bw_ex_iff.mp hμ
  refine bw_begin l C0 (fun D cI cJ cZ n0 n1 u v H locs ls hK hN hP hD hS hl => ?_)
  have hP2 : va_P D vwCl (bw_cells (bw_ad b n0 n1 u v) cI cJ cZ bw_mu0) H := hP.sub [0, 29, 1, 2, 3, 4, 5, 6, 7, 8, 9, 10, 12, 13, 14, 15, 16, 17, 18, 19, 20, 21, 11, 22, 23, 24, 25, 26, 27, 28, 30, 31, 32, 33, 34, 35, 36, 37, 38, 39, 40, 41, 42, 43, 44, 45, 46, 47, 48, 49, 50, 51, 52] rfl
  have hD2 : va_D (fun q : Nat => s.heap.size ≤ q) (bw_cells (bw_ad b n0 n1 u v) cI cJ cZ bw_mu0) := hD.sub [0, 29, 1, 2, 3, 4, 5, 6, 7, 8, 9, 10, 12, 13, 14, 15, 16, 17, 18, 19, 20, 21, 11, 22, 23, 24, 25, 26, 27, 28, 30, 31, 32, 33, 34, 35, 36, 37, 38, 39, 40, 41, 42, 43, 44, 45, 46, 47, 48, 49, 50, 51, 52] (by decide) rfl
  have hl2 : lv_has ls 4 (bw_lv (bw_ad b n0 n1 u v) 0 [some (.inr (.inr 60)), some (.inr (.inr 0)), some (.inr (.inr 30)), none]) := lv_sub hl [2, 1, 0] rfl
  refine bw_sound_run (own := 5) (cc := code) (nL := 4) (d := 60) (R := room_1) (sl := L + 1) (sx := xs) (rt := 3) (t := tLw) (ρ := (some (.inl 1), μ')) ⟨hx, hb, hml, hown, fun w h => hts w (List.mem_filter.mp h).1, hK, fun _ h => h, hN⟩ (bw_CS_all l _ D cI cJ cZ 60) (by decide) (by decide) ⟨Nat.le_refl _, Nat.le_refl _⟩ (Or.inr ⟨hX, hbl, Nat.not_le.mpr hbl⟩) ?_ ?_ ?_ kL_law n 16 _ [] bw_mu0 hn H locs ls hP2 hD2 hS hl2
  · intro x ν pc ls2 hd hrt hρ
    cases hρ
    intro H locs lsA hP1 hD1 hS1 hl1
    refine va_forget (fun q hq => hS1.2.2 q hq) ?_
    exact lw_ret hx hb hr hlocks hd
  · intro x ν pc ls2 hd hrt hρ
    cases hρ
  · intro ν pc ls2 hd hrt hρ
    cases hρ
