/-! what is owed -/
theorem i_vc (xs : Nat → Int32) (L : Nat) (hL : L ≤ 260) : wpL_law (fun r => r = 1) L xs := by
  obtain ⟨x0, hx0, g0⟩ := wq_cm (xs := xs) (L := L) (a := 0) hL (by omega)
  obtain ⟨x1, hx1, g1⟩ := wq_cm (xs := xs) (L := L) (a := 1) hL (by omega)
  obtain ⟨x2, hx2, g2⟩ := wq_cm (xs := xs) (L := L) (a := 2) hL (by omega)
  obtain ⟨x3, hx3, g3⟩ := wq_cm (xs := xs) (L := L) (a := 3) hL (by omega)
  have e0 : 2 + (nI x0 - nI x0 / 5 * 5) = nI (2 + x0 % 5) := by
    rw [show nI x0 - nI x0 / 5 * 5 = nI (x0 % 5) from pk_rem (a := x0) (d := 5) hx0 (by decide) (by decide)]
    exact nI_add 2 _
  have e1 : 24 + (nI x1 - nI x1 / 40 * 40) = nI (24 + x1 % 40) := by
    rw [show nI x1 - nI x1 / 40 * 40 = nI (x1 % 40) from pk_rem (a := x1) (d := 40) hx1 (by decide) (by decide)]
    exact nI_add 24 _
  have b0 : x0 % 5 < 5 := Nat.mod_lt _ (by decide)
  have b1 : x1 % 40 < 40 := Nat.mod_lt _ (by decide)
  generalize x0 % 5 = y0 at e0 b0
  generalize x1 % 40 = y1 at e1 b1
  unfold wpL_law
  refine g0 _ ⟨by decide, nm_r e0 ?_⟩ 0 rfl
  refine g1 _ ⟨by decide, nm_r e1 ?_⟩ 1 rfl
  refine g2 _ ⟨by decide, nm_e ?_⟩ 2 rfl
  refine g3 _ ⟨nI_ne0 (by omega) (by omega), nm_e ⟨17, 1728, by omega, by omega, ?_⟩⟩ 3 rfl
  refine wq_init (n := 2 + y0) (L := 24 + y1) (by omega) (by omega) (by omega) (by omega) ?_
  have hI : ∀ m : Int32, wq_I (2 + y0) (24 + y1) m 0 0 0 0 0 (nI (2 + y0), nI (24 + y1), nI 0, nI 0, ws_z, ws_z, ws_z, ws_z, ws_z, ws_z, ws_z, ws_fill ws_z 0 6 (-6), ws_fill ws_z 0 6 (-6), ws_fill ws_z 0 6 (-6), ws_fill ws_z 0 6 (-6), ws_fill ws_z 0 6 1, ws_z, ws_z, ws_z, ws_z, ws_fill ws_z 0 (6 * 6) (-6)) :=
    fun m => ⟨fun _ => 0, ws_z, ws_z, ws_z, ws_z, wq_S_i (lb := ws_fill ws_z 0 6 (-6)) (wq_R0 (by omega) (by omega) (by omega)), wq_log_0 ws_z, ⟨0, by omega, rfl, fun i _ => by rw [Nat.zero_div]⟩⟩
  by_cases c : L ≤ 4
  · exact br_t (nI_le (b := 4) c (by omega)) ⟨_, wq_103 (len := 0) hL (by omega) (by omega) (by omega) (0 + (2 + y0)) 0 0 0 0 0 0 0 _ (by omega) (hI _)⟩
  · refine br_f (nI_ge (a := 4) (by omega) (by omega)) (nm_r (e' := nI (L - 4)) (pk_sub (a := L) (b := 4) (by omega)) ⟨L - 4 + (2 + y0) + 1, ?_⟩)
    exact wq_103 (len := L - 4) hL (by omega) (by omega) (by omega) (L - 4 + (2 + y0)) 0 0 0 0 0 0 0 _ (by omega) (hI _)
