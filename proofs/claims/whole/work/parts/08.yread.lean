/-! the reference's read step, and both sides' steps -/
section
variable {n L w ub : Nat} {wr wn ca H ph st rd it sw ew lb yv ra : Nat → Int32} {p r : Nat}
theorem wy_read {post : SY → Prop} {t t' : Nat} (hp : p < n) (h2 : 2 ≤ n) (h6 : n ≤ 6) (hw : w ≤ 128) (hr : r < 64) (er : rd p = nI r) (hR : ws_Rds w (fun s => ra (p * 64 + s)) r)
    (et : ph p = nI t) (ht : (t = 1 ∧ t' = 0) ∨ (t = 2 ∧ t' = 3))
    (hA : n ≤ r → ws_cnt wr (r % n) (ra (p * 64 + r % n)).toNatClampNeg + 2 ≤ ws_cnt wr (r % n) w →
      post ((nI w), (nI n), (nI L), (nI ub), wr, wn, ca, H, (upd ph p (nI t')), st, (upd rd p (nI (r + 1))), it, sw, (upd ew p (nI w)), (upd lb p (nI (r % n))), (upd yv p (ws_last wr ca (r % n) w)), (upd ra (p * 64 + r) (nI w))))
    (hB : (r < n ∨ ws_cnt wr (r % n) w < ws_cnt wr (r % n) (ra (p * 64 + r % n)).toNatClampNeg + 2) → r % n + 1 < n →
      post ((nI w), (nI n), (nI L), (nI ub), wr, wn, ca, H, ph, st, (upd rd p (nI (r + 1))), it, sw, ew, lb, yv, (upd ra (p * 64 + r) (nI w))))
    (hC : n ≤ r → ws_cnt wr (r % n) w < ws_cnt wr (r % n) (ra (p * 64 + r % n)).toNatClampNeg + 2 → r % n + 1 = n → (∀ i, i < n → ¬ ws_mv wr (upd (fun s => ra (p * 64 + s)) r (nI w)) n i (r + 1) = r / n + 1) →
      post ((nI w), (nI n), (nI L), (nI ub), wr, wn, ca, H, (upd ph p (nI t')), st, (upd rd p (nI (r + 1))), it, sw, (upd ew p (nI w)), (upd lb p (-7)), (upd yv p (ra (p * 64 + (r - n)))), (upd ra (p * 64 + r) (nI w))))
    (hD : (r < n ∨ ws_cnt wr (r % n) w < ws_cnt wr (r % n) (ra (p * 64 + r % n)).toNatClampNeg + 2) → r % n + 1 = n → (r < n ∨ ∃ i, i < n ∧ ws_mv wr (upd (fun s => ra (p * 64 + s)) r (nI w)) n i (r + 1) = r / n + 1) →
      post ((nI w), (nI n), (nI L), (nI ub), wr, wn, ca, H, ph, st, (upd rd p (nI (r + 1))), it, sw, ew, lb, yv, (upd ra (p * 64 + r) (nI w)))) :
    wpY_read post ((nI w), (nI n), (nI L), (nI ub), wr, wn, ca, H, ph, st, rd, it, sw, ew, lb, yv, ra) (nI p) := by
  have hml := ws_ml h2 r
  have dl := Nat.div_le_self r n
  have d3 := ws_dm3 h2 h6 r
  have hp6 : p < 6 := by omega
  have i6 : vp_in (nI p) 6 := ws_in hp6
  have n0 : ¬ nI n = 0 := nI_ne0 (by omega) (by omega)
  refine ⟨i6, nm_r (e' := nI r) (by rw [ws_r (by omega) rd]; exact er) ?_⟩
  refine br_t (nI_lt (b := 64) hr (by omega)) ?_
  refine nm_r (e' := nI (p * 64)) (pk_mul p 64) ⟨n0, ?_⟩
  refine nm_r (pk_rem (by omega) (by omega) (by omega)) ⟨n0, ?_⟩
  refine nm_r (e' := nI (r / n + 1)) (by rw [pk_div (by omega) (by omega) (by omega), nI_1]) ?_
  refine ⟨by rw [nI_add]; exact ws_in (by omega), nm_r (e' := upd ra (p * 64 + r) (nI w)) (by rw [nI_add, nI_clamp (by omega)]) ⟨i6, ?_⟩⟩
  refine nm_r (e' := upd rd p (nI (r + 1))) (by rw [ws_u (by omega), nI_1]) ?_
  refine pk_le 2 (r / n + 1) (fun c2 => ?_) (fun c2 => ?_)
  · have hnr : n ≤ r := by
      by_cases c : n ≤ r
      · exact c
      · have := (d3.1 (by omega)).1
        omega
    obtain ⟨b1, b2⟩ := ws_Rds_c hw hR (show r % n < r by omega)
    have q1 := ws_cnt_le wr (r % n) w
    have q2 := ws_cnt_le wr (r % n) (ra (p * 64 + r % n)).toNatClampNeg
    refine wy_countAt hw ⟨by rw [nI_add]; exact ws_in (by omega), ?_⟩
    rw [nI_add, ws_r (by omega) (upd ra (p * 64 + r) (nI w)), pk_un (show p * 64 + r % n ≠ p * 64 + r by omega), b2]
    refine wy_countAt (by omega) ?_
    rw [show (2 : Int32) = nI 2 from rfl, nI_add]
    refine pk_lt _ _ (fun q => ?_) (fun q => ?_)
    · have e1 : (nI n - 1 : Int32) = nI (n - 1) := by
        rw [show n = (n - 1) + 1 by omega, nI_pred]
        rfl
      rw [e1]
      refine pk_eq (r % n) (n - 1) (fun z => ⟨n + 1, ?_⟩) (fun z => hB (Or.inr q) (by omega))
      have lc := ws_loc ra (p * 64) r (nI w)
      refine wy_clean_lp (r := r) (R := r + 1) hp h2 h6 (by omega) pk_us hw (by rw [lc]; exact ws_Rds_new hR) (by omega) (fun y => ?_) (fun y => ?_) n 0 0 (by omega) (Or.inl ⟨rfl, fun i hi => by omega⟩)
      · rw [lc] at y
        rw [nI_add, pk_sub (show n ≤ p * 64 + r by omega), show p * 64 + r - n = p * 64 + (r - n) by omega]
        refine ⟨ws_in (by omega), ?_⟩
        rw [ws_r (by omega) (upd ra (p * 64 + r) (nI w)), pk_un (show p * 64 + (r - n) ≠ p * 64 + r by omega)]
        exact wy_endReading hp6 et ht (hC hnr q (by omega) y)
      · rw [lc] at y
        exact hD (Or.inr q) (by omega) (Or.inr y)
    · refine wy_heldBy hw ?_
      exact wy_endReading hp6 et ht (hA hnr q)
  · have hnr : r < n := by
      by_cases c : n ≤ r
      · have := d3.2.1 c
        omega
      · omega
    by_cases z : r % n + 1 < n
    · exact hB (Or.inl hnr) z
    · exact hD (Or.inl hnr) (by omega) (Or.inl hnr)
theorem wy_stepW {post : SY → Prop} (hp : p < 6) (hw : w < 128) (et : ph p = 3)
    (h : post ((nI (w + 1)), (nI n), (nI L), (nI ub), (upd wr w (nI p)), (upd wn w (it p)), (upd ca w (yv p)), H, (upd ph p 0), (upd st p (st p + 1)), rd, it, sw, ew, lb, yv, ra)) : wpY_step post ((nI w), (nI n), (nI L), (nI ub), wr, wn, ca, H, ph, st, rd, it, sw, ew, lb, yv, ra) (nI p) := by
  have i : vp_in (nI p) 6 := ws_in hp
  have i2 : vp_in (nI w) 128 := ws_in hw
  refine ⟨i, ⟨i, nm_r (e' := upd st p (st p + 1)) (by rw [nI_clamp (by omega)]) ⟨i, ?_⟩⟩⟩
  refine br_t (by rw [ws_r (by omega) ph]; exact et) (br_f (nI_ge (a := w) (b := 128) hw (by omega)) ⟨i2, ?_⟩)
  refine nm_r (ws_u (by omega) wr (nI p)) ⟨i, ⟨i2, ?_⟩⟩
  refine nm_r (e' := upd wn w (it p)) (by rw [nI_clamp (by omega), nI_clamp (by omega)]) ⟨i, ⟨i2, ?_⟩⟩
  refine nm_r (e' := upd ca w (yv p)) (by rw [nI_clamp (by omega), nI_clamp (by omega)]) ?_
  exact nm_r (nI_1 w) ⟨i, nm_r (ws_u (by omega) ph 0) h⟩
theorem wy_stepR {post : SY → Prop} (hp : p < 6) (et : ¬ ph p = 3) (h : wpY_read post ((nI w), (nI n), (nI L), (nI ub), wr, wn, ca, H, ph, (upd st p (st p + 1)), rd, it, sw, ew, lb, yv, ra) (nI p)) : wpY_step post ((nI w), (nI n), (nI L), (nI ub), wr, wn, ca, H, ph, st, rd, it, sw, ew, lb, yv, ra) (nI p) := by
  have i : vp_in (nI p) 6 := ws_in hp
  refine ⟨i, ⟨i, nm_r (e' := upd st p (st p + 1)) (by rw [nI_clamp (by omega)]) ⟨i, ?_⟩⟩⟩
  exact br_f (by rw [ws_r (by omega) ph]; exact et) h
end
section
variable {n L w ub : Nat} {vV vC hV H ph st it sw ew lb vw co nx lc mc fc rv : Nat → Int32} {p r : Nat}
theorem wx_stepW {post : SX → Prop} (hp : p < 6) (hw : w < 128) (et : ph p = 3)
    (h : post ((nI n), (nI L), (nI (w + 1)), (nI ub), (upd (ws_row vV (w * 6) 6) (w * 6 + 6 + p) (it p)), (upd (ws_row vC (w * 6) 6) (w * 6 + 6 + p) (ws_row vC (w * 6) 6 (w * 6 + 6 + p) + 1)), (upd hV p (vw p)), H, (upd ph p 0), (upd st p (st p + 1)), it, sw, ew, lb, vw, co, nx, lc, mc, fc, rv)) : wpX_takeStep post ((nI n), (nI L), (nI w), (nI ub), vV, vC, hV, H, ph, st, it, sw, ew, lb, vw, co, nx, lc, mc, fc, rv) (nI p) := by
  have i : vp_in (nI p) 6 := ws_in hp
  refine ⟨i, ⟨i, nm_r (e' := upd st p (st p + 1)) (by rw [nI_clamp (by omega)]) ⟨i, ?_⟩⟩⟩
  refine br_t (by rw [ws_r (by omega) ph]; exact et) ?_
  exact wx_write hp hw h
theorem wx_stepR {post : SX → Prop} {j : Nat} (hp : p < 6) (et : ¬ ph p = 3) (ej : nx p = nI j) (h : wpX_read post ((nI n), (nI L), (nI w), (nI ub), vV, vC, hV, H, ph, (upd st p (st p + 1)), it, sw, ew, lb, vw, co, nx, lc, mc, fc, rv) (nI p) (nI j)) : wpX_takeStep post ((nI n), (nI L), (nI w), (nI ub), vV, vC, hV, H, ph, st, it, sw, ew, lb, vw, co, nx, lc, mc, fc, rv) (nI p) := by
  have i : vp_in (nI p) 6 := ws_in hp
  refine ⟨i, ⟨i, nm_r (e' := upd st p (st p + 1)) (by rw [nI_clamp (by omega)]) ⟨i, ?_⟩⟩⟩
  refine br_f (by rw [ws_r (by omega) ph]; exact et) ⟨i, ?_⟩
  rw [ws_r (by omega) nx, ej]
  exact h
end
