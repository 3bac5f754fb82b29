/-! what is owed -/
/-- the relation: one number of processes, and the two states alike -/
def i_Rel (_ : Nat) (u : SX) (v : SY) : Prop := ∃ n, ws_S n u v
theorem i_up {k : Nat} {u : SX} {v : SY} (h : i_Rel k u v) : i_Rel (k + 4) u v := h
theorem i_vc0 (k0 : Int32) (k1 : Int32) : wpX_init (fun u => wpY_init (fun v => i_Rel 2 u v) k0 k1) k0 k1 := by
  obtain ⟨n, h2, h6, c⟩ := ws_cl 2 6 (by omega) (by omega) k0
  obtain ⟨L, h4, hL, d⟩ := ws_cl 4 128 (by omega) (by omega) k1
  exact wx_init c d (wy_init c d ⟨n, ws_S_i (ws_R0 h2 h6 hL)⟩)
theorem i_vc_beginScan {k : Nat} {u : SX} {v : SY} (I : i_Rel k u v) (hk : k + 4 ≤ 2050) (v1 : Int32) : wpX_beginScan (fun r u' => wpY_beginScan (fun r' v' => r' = r ∧ i_Rel (k + 4) u' v') v v1) u v1 := by
  obtain ⟨n, L, w, ub, vV, vC, hV, H, ph, st, it, sw, ew, lb, vw, co, nx, lc, mc, fc, rv, wr, wn, ca, rd, yv, ra, rfl, rfl, hR⟩ := I
  obtain ⟨r, u1, v1', s, gx, gy⟩ := ws_scan (H := H) (st := st) (it := it) (sw := sw) (lb := lb) hR v1
  exact gx _ (gy _ ⟨rfl, n, s⟩)
theorem i_vc_beginUpdate {k : Nat} {u : SX} {v : SY} (I : i_Rel k u v) (hk : k + 4 ≤ 2050) (v1 : Int32) (v2 : Int32) : wpX_beginUpdate (fun r u' => wpY_beginUpdate (fun r' v' => r' = r ∧ i_Rel (k + 4) u' v') v v1 v2) u v1 v2 := by
  obtain ⟨n, L, w, ub, vV, vC, hV, H, ph, st, it, sw, ew, lb, vw, co, nx, lc, mc, fc, rv, wr, wn, ca, rd, yv, ra, rfl, rfl, hR⟩ := I
  obtain ⟨r, u1, v1', s, gx, gy⟩ := ws_update (H := H) (st := st) (it := it) (sw := sw) (lb := lb) hR v1 v2
  exact gx _ (gy _ ⟨rfl, n, s⟩)
theorem i_vc_run {k : Nat} {u : SX} {v : SY} (I : i_Rel k u v) (hk : k + 4 ≤ 2050) (v1 : Int32) (v2 : Int32) : wpX_run (fun r u' => wpY_run (fun r' v' => r' = r ∧ i_Rel (k + 4) u' v') v v1 v2) u v1 v2 := by
  obtain ⟨n, L, w, ub, vV, vC, hV, H, ph, st, it, sw, ew, lb, vw, co, nx, lc, mc, fc, rv, wr, wn, ca, rd, yv, ra, rfl, rfl, hR⟩ := I
  obtain ⟨r, u1, v1', s, gx, gy⟩ := ws_run (H := H) (st := st) (it := it) (sw := sw) (lb := lb) hR v1 v2
  exact gx _ (gy _ ⟨rfl, n, s⟩)
theorem i_vc_schedule {k : Nat} {u : SX} {v : SY} (I : i_Rel k u v) (hk : k + 4 ≤ 2050) (v1 : Int32) : wpX_schedule (fun r u' => wpY_schedule (fun r' v' => r' = r ∧ i_Rel (k + 4) u' v') v v1) u v1 := by
  obtain ⟨n, L, w, ub, vV, vC, hV, H, ph, st, it, sw, ew, lb, vw, co, nx, lc, mc, fc, rv, wr, wn, ca, rd, yv, ra, rfl, rfl, hR⟩ := I
  obtain ⟨r, u1, v1', s, gx, gy⟩ := ws_sch (H := H) (st := st) (it := it) (sw := sw) (lb := lb) hR v1
  exact gx _ (gy _ ⟨rfl, n, s⟩)
theorem i_vc_halt {k : Nat} {u : SX} {v : SY} (I : i_Rel k u v) (hk : k + 4 ≤ 2050) (v1 : Int32) : wpX_halt (fun r u' => wpY_halt (fun r' v' => r' = r ∧ i_Rel (k + 4) u' v') v v1) u v1 := by
  obtain ⟨n, L, w, ub, vV, vC, hV, H, ph, st, it, sw, ew, lb, vw, co, nx, lc, mc, fc, rv, wr, wn, ca, rd, yv, ra, rfl, rfl, hR⟩ := I
  obtain ⟨r, u1, v1', s, gx, gy⟩ := ws_halt (H := H) (st := st) (it := it) (sw := sw) (lb := lb) hR v1
  exact gx _ (gy _ ⟨rfl, n, s⟩)
theorem i_vc_phase {k : Nat} {u : SX} {v : SY} (I : i_Rel k u v) (hk : k + 4 ≤ 2050) (v1 : Int32) : wpX_phase (fun r => wpY_phase (fun r' => r' = r ∧ i_Rel (k + 4) u v) v v1) u v1 := by
  obtain ⟨n, L, w, ub, vV, vC, hV, H, ph, st, it, sw, ew, lb, vw, co, nx, lc, mc, fc, rv, wr, wn, ca, rd, yv, ra, rfl, rfl, hR⟩ := I
  obtain ⟨r, gx, gy⟩ := ws_phase (L := L) (w := w) (ub := ub) (vV := vV) (vC := vC) (hV := hV) (H := H) (ph := ph) (st := st) (it := it) (sw := sw) (ew := ew) (lb := lb) (vw := vw) (co := co) (nx := nx) (lc := lc) (mc := mc) (fc := fc) (rv := rv) (wr := wr) (wn := wn) (ca := ca) (rd := rd) (yv := yv) (ra := ra) hR.2.1 v1
  exact gx _ (gy _ ⟨rfl, n, ws_S_i hR⟩)
theorem i_vc_steps {k : Nat} {u : SX} {v : SY} (I : i_Rel k u v) (hk : k + 4 ≤ 2050) (v1 : Int32) : wpX_steps (fun r => wpY_steps (fun r' => r' = r ∧ i_Rel (k + 4) u v) v v1) u v1 := by
  obtain ⟨n, L, w, ub, vV, vC, hV, H, ph, st, it, sw, ew, lb, vw, co, nx, lc, mc, fc, rv, wr, wn, ca, rd, yv, ra, rfl, rfl, hR⟩ := I
  obtain ⟨r, gx, gy⟩ := ws_steps (L := L) (w := w) (ub := ub) (vV := vV) (vC := vC) (hV := hV) (H := H) (ph := ph) (st := st) (it := it) (sw := sw) (ew := ew) (lb := lb) (vw := vw) (co := co) (nx := nx) (lc := lc) (mc := mc) (fc := fc) (rv := rv) (wr := wr) (wn := wn) (ca := ca) (rd := rd) (yv := yv) (ra := ra) hR.2.1 v1
  exact gx _ (gy _ ⟨rfl, n, ws_S_i hR⟩)
theorem i_vc_intent {k : Nat} {u : SX} {v : SY} (I : i_Rel k u v) (hk : k + 4 ≤ 2050) (v1 : Int32) : wpX_intent (fun r => wpY_intent (fun r' => r' = r ∧ i_Rel (k + 4) u v) v v1) u v1 := by
  obtain ⟨n, L, w, ub, vV, vC, hV, H, ph, st, it, sw, ew, lb, vw, co, nx, lc, mc, fc, rv, wr, wn, ca, rd, yv, ra, rfl, rfl, hR⟩ := I
  obtain ⟨r, gx, gy⟩ := ws_intent (L := L) (w := w) (ub := ub) (vV := vV) (vC := vC) (hV := hV) (H := H) (ph := ph) (st := st) (it := it) (sw := sw) (ew := ew) (lb := lb) (vw := vw) (co := co) (nx := nx) (lc := lc) (mc := mc) (fc := fc) (rv := rv) (wr := wr) (wn := wn) (ca := ca) (rd := rd) (yv := yv) (ra := ra) hR.2.1 v1
  exact gx _ (gy _ ⟨rfl, n, ws_S_i hR⟩)
theorem i_vc_startedAt {k : Nat} {u : SX} {v : SY} (I : i_Rel k u v) (hk : k + 4 ≤ 2050) (v1 : Int32) : wpX_startedAt (fun r => wpY_startedAt (fun r' => r' = r ∧ i_Rel (k + 4) u v) v v1) u v1 := by
  obtain ⟨n, L, w, ub, vV, vC, hV, H, ph, st, it, sw, ew, lb, vw, co, nx, lc, mc, fc, rv, wr, wn, ca, rd, yv, ra, rfl, rfl, hR⟩ := I
  obtain ⟨r, gx, gy⟩ := ws_startedAt (L := L) (w := w) (ub := ub) (vV := vV) (vC := vC) (hV := hV) (H := H) (ph := ph) (st := st) (it := it) (sw := sw) (ew := ew) (lb := lb) (vw := vw) (co := co) (nx := nx) (lc := lc) (mc := mc) (fc := fc) (rv := rv) (wr := wr) (wn := wn) (ca := ca) (rd := rd) (yv := yv) (ra := ra) hR.2.1 v1
  exact gx _ (gy _ ⟨rfl, n, ws_S_i hR⟩)
theorem i_vc_endedAt {k : Nat} {u : SX} {v : SY} (I : i_Rel k u v) (hk : k + 4 ≤ 2050) (v1 : Int32) : wpX_endedAt (fun r => wpY_endedAt (fun r' => r' = r ∧ i_Rel (k + 4) u v) v v1) u v1 := by
  obtain ⟨n, L, w, ub, vV, vC, hV, H, ph, st, it, sw, ew, lb, vw, co, nx, lc, mc, fc, rv, wr, wn, ca, rd, yv, ra, rfl, rfl, hR⟩ := I
  obtain ⟨r, gx, gy⟩ := ws_endedAt (L := L) (w := w) (ub := ub) (vV := vV) (vC := vC) (hV := hV) (H := H) (ph := ph) (st := st) (it := it) (sw := sw) (ew := ew) (lb := lb) (vw := vw) (co := co) (nx := nx) (lc := lc) (mc := mc) (fc := fc) (rv := rv) (wr := wr) (wn := wn) (ca := ca) (rd := rd) (yv := yv) (ra := ra) hR.2.1 v1
  exact gx _ (gy _ ⟨rfl, n, ws_S_i hR⟩)
theorem i_vc_lender {k : Nat} {u : SX} {v : SY} (I : i_Rel k u v) (hk : k + 4 ≤ 2050) (v1 : Int32) : wpX_lender (fun r => wpY_lender (fun r' => r' = r ∧ i_Rel (k + 4) u v) v v1) u v1 := by
  obtain ⟨n, L, w, ub, vV, vC, hV, H, ph, st, it, sw, ew, lb, vw, co, nx, lc, mc, fc, rv, wr, wn, ca, rd, yv, ra, rfl, rfl, hR⟩ := I
  obtain ⟨r, gx, gy⟩ := ws_lender (L := L) (w := w) (ub := ub) (vV := vV) (vC := vC) (hV := hV) (H := H) (ph := ph) (st := st) (it := it) (sw := sw) (ew := ew) (lb := lb) (vw := vw) (co := co) (nx := nx) (lc := lc) (mc := mc) (fc := fc) (rv := rv) (wr := wr) (wn := wn) (ca := ca) (rd := rd) (yv := yv) (ra := ra) hR.2.1 v1
  exact gx _ (gy _ ⟨rfl, n, ws_S_i hR⟩)
theorem i_vc_movedIn {k : Nat} {u : SX} {v : SY} (I : i_Rel k u v) (hk : k + 4 ≤ 2050) (v1 : Int32) (v2 : Int32) : wpX_movedIn (fun r => wpY_movedIn (fun r' => r' = r ∧ i_Rel (k + 4) u v) v v1 v2) u v1 v2 := by
  obtain ⟨n, L, w, ub, vV, vC, hV, H, ph, st, it, sw, ew, lb, vw, co, nx, lc, mc, fc, rv, wr, wn, ca, rd, yv, ra, rfl, rfl, hR⟩ := I
  obtain ⟨r, gx, gy⟩ := ws_movedIn (H := H) (st := st) (it := it) (sw := sw) (lb := lb) hR v1 v2
  exact gx _ (gy _ ⟨rfl, n, ws_S_i hR⟩)
theorem i_vc_value {k : Nat} {u : SX} {v : SY} (I : i_Rel k u v) (hk : k + 4 ≤ 2050) (v1 : Int32) (v2 : Int32) (v3 : Int32) : wpX_value (fun r => wpY_value (fun r' => r' = r ∧ i_Rel (k + 4) u v) v v1 v2 v3) u v1 v2 v3 := by
  obtain ⟨n, L, w, ub, vV, vC, hV, H, ph, st, it, sw, ew, lb, vw, co, nx, lc, mc, fc, rv, wr, wn, ca, rd, yv, ra, rfl, rfl, hR⟩ := I
  obtain ⟨r, gx, gy⟩ := ws_value (H := H) (st := st) (it := it) (sw := sw) (lb := lb) hR v1 v2 v3
  exact gx _ (gy _ ⟨rfl, n, ws_S_i hR⟩)
theorem i_vc_count {k : Nat} {u : SX} {v : SY} (I : i_Rel k u v) (hk : k + 4 ≤ 2050) (v1 : Int32) (v2 : Int32) (v3 : Int32) : wpX_count (fun r => wpY_count (fun r' => r' = r ∧ i_Rel (k + 4) u v) v v1 v2 v3) u v1 v2 v3 := by
  obtain ⟨n, L, w, ub, vV, vC, hV, H, ph, st, it, sw, ew, lb, vw, co, nx, lc, mc, fc, rv, wr, wn, ca, rd, yv, ra, rfl, rfl, hR⟩ := I
  obtain ⟨r, gx, gy⟩ := ws_count (H := H) (st := st) (it := it) (sw := sw) (lb := lb) hR v1 v2 v3
  exact gx _ (gy _ ⟨rfl, n, ws_S_i hR⟩)
theorem i_vc_version {k : Nat} {u : SX} {v : SY} (I : i_Rel k u v) (hk : k + 4 ≤ 2050) (v1 : Int32) (v2 : Int32) : wpX_version (fun r => wpY_version (fun r' => r' = r ∧ i_Rel (k + 4) u v) v v1 v2) u v1 v2 := by
  obtain ⟨n, L, w, ub, vV, vC, hV, H, ph, st, it, sw, ew, lb, vw, co, nx, lc, mc, fc, rv, wr, wn, ca, rd, yv, ra, rfl, rfl, hR⟩ := I
  obtain ⟨r, gx, gy⟩ := ws_version (H := H) (st := st) (it := it) (sw := sw) (lb := lb) hR v1 v2
  exact gx _ (gy _ ⟨rfl, n, ws_S_i hR⟩)
