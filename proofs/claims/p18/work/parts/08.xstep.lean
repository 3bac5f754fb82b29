/-! a step of the component -/
section
variable {n L w ub : Nat} {vV vC hV H ph st it sw ew lb vw co nx lc mc fc rv : Nat → Int32} {p r : Nat}
theorem wx_stepW {post : St2 → Prop} (hp : p < 6) (hw : w < 128) (et : ph p = 3)
    (h : post ((nI n), (nI L), (nI (w + 1)), (nI ub), (upd (ws_row vV (w * 6) 6) (w * 6 + 6 + p) (it p)), (upd (ws_row vC (w * 6) 6) (w * 6 + 6 + p) (ws_row vC (w * 6) 6 (w * 6 + 6 + p) + 1)), (upd hV p (vw p)), H, (upd ph p 0), (upd st p (st p + 1)), it, sw, ew, lb, vw, co, nx, lc, mc, fc, rv)) : wpX_takeStep post ((nI n), (nI L), (nI w), (nI ub), vV, vC, hV, H, ph, st, it, sw, ew, lb, vw, co, nx, lc, mc, fc, rv) (nI p) := by
  have i : vp_in (nI p) 6 := ws_in hp
  refine ⟨i, ⟨i, nm_r (e' := upd st p (st p + 1)) (by rw [nI_clamp (by omega)]) ⟨i, ?_⟩⟩⟩
  refine br_t (by rw [ws_r (by omega) ph]; exact et) ?_
  exact wx_write hp hw h
theorem wx_stepR {post : St2 → Prop} {j : Nat} (hp : p < 6) (et : ¬ ph p = 3) (ej : nx p = nI j) (h : wpX_read post ((nI n), (nI L), (nI w), (nI ub), vV, vC, hV, H, ph, (upd st p (st p + 1)), it, sw, ew, lb, vw, co, nx, lc, mc, fc, rv) (nI p) (nI j)) : wpX_takeStep post ((nI n), (nI L), (nI w), (nI ub), vV, vC, hV, H, ph, st, it, sw, ew, lb, vw, co, nx, lc, mc, fc, rv) (nI p) := by
  have i : vp_in (nI p) 6 := ws_in hp
  refine ⟨i, ⟨i, nm_r (e' := upd st p (st p + 1)) (by rw [nI_clamp (by omega)]) ⟨i, ?_⟩⟩⟩
  refine br_f (by rw [ws_r (by omega) ph]; exact et) ⟨i, ?_⟩
  rw [ws_r (by omega) nx, ej]
  exact h
end
