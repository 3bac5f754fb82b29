/-! refusals, and who can step -/
theorem ws_t {p : Nat} (hp : p < 774) {f : Nat → Int32} {x : Int32} (e : f p = x) : f (nI p).toNatClampNeg = x := (ws_r hp f).trans e
theorem ws_nt {p : Nat} (hp : p < 774) {f : Nat → Int32} {x : Int32} (e : ¬ f p = x) : ¬ f (nI p).toNatClampNeg = x := fun y => e ((ws_r hp f).symm.trans y)
theorem ws_where {n : Nat} (h6 : n ≤ 6) (x : Int32) : (x < 0 ∨ nI n ≤ x) ∨ ∃ p : Nat, p < n ∧ x = nI p := by
  rcases pk_ix x (show n < 2 ^ 31 by omega) with y | y | y
  · exact Or.inl (Or.inl y)
  · exact Or.inl (Or.inr y)
  · exact Or.inr y
section
variable {n L w ub : Nat} {vV vC hV H ph st it sw ew lb vw co nx lc mc fc rv : Nat → Int32} {p : Nat}
theorem wx_can_t {post : Int32 → Prop} (h6 : n ≤ 6) (hp : p < n) (eh : H p = 0) (e0 : ¬ ph p = 0) (h : post 1) : wpX_canStep post ((nI n), (nI L), (nI w), (nI ub), vV, vC, hV, H, ph, st, it, sw, ew, lb, vw, co, nx, lc, mc, fc, rv) (nI p) := by
  unfold wpX_canStep
  exact wx_in hp h6 (br_f (by decide) ⟨ws_in (by omega), br_t (ws_t (f := H) (by omega) (eh)) ⟨ws_in (by omega), br_f (ws_nt (f := ph) (by omega) (e0)) h⟩⟩)
theorem wx_can_f {post : Int32 → Prop} (h6 : n ≤ 6) (hp : p < 2 ^ 31) (c : n ≤ p ∨ ¬ H p = 0 ∨ ph p = 0) (h : post 0) : wpX_canStep post ((nI n), (nI L), (nI w), (nI ub), vV, vC, hV, H, ph, st, it, sw, ew, lb, vw, co, nx, lc, mc, fc, rv) (nI p) := by
  unfold wpX_canStep
  by_cases z : n ≤ p
  · exact wx_out (Or.inr (nI_le z hp)) (br_t rfl h)
  · refine wx_in (by omega) h6 (br_f (by decide) ⟨ws_in (by omega), ?_⟩)
    by_cases eh : H p = 0
    · exact br_t (ws_t (f := H) (by omega) (eh)) ⟨ws_in (by omega), br_t (ws_t (f := ph) (by omega) ((c.resolve_left z).resolve_left (fun y => y eh))) h⟩
    · exact br_f (ws_nt (f := H) (by omega) (eh)) h
theorem wx_ref_out {post : Int32 → Prop} {x : Int32} (z : x < 0 ∨ nI n ≤ x) (h : post (-1)) : wpX_refusalToBegin post ((nI n), (nI L), (nI w), (nI ub), vV, vC, hV, H, ph, st, it, sw, ew, lb, vw, co, nx, lc, mc, fc, rv) x := by
  unfold wpX_refusalToBegin
  exact wx_out z (br_t rfl h)
theorem wx_ref_h {post : Int32 → Prop} (hp : p < n) (h6 : n ≤ 6) (eh : ¬ H p = 0) (h : post (-2)) : wpX_refusalToBegin post ((nI n), (nI L), (nI w), (nI ub), vV, vC, hV, H, ph, st, it, sw, ew, lb, vw, co, nx, lc, mc, fc, rv) (nI p) := by
  unfold wpX_refusalToBegin
  exact wx_in hp h6 (br_f (by decide) ⟨ws_in (by omega), br_f (ws_nt (f := H) (by omega) eh) h⟩)
theorem wx_ref_b {post : Int32 → Prop} (hp : p < n) (h6 : n ≤ 6) (eh : H p = 0) (e0 : ¬ ph p = 0) (h : post (-3)) : wpX_refusalToBegin post ((nI n), (nI L), (nI w), (nI ub), vV, vC, hV, H, ph, st, it, sw, ew, lb, vw, co, nx, lc, mc, fc, rv) (nI p) := by
  unfold wpX_refusalToBegin
  exact wx_in hp h6 (br_f (by decide) ⟨ws_in (by omega), br_t (ws_t (f := H) (by omega) eh) ⟨ws_in (by omega), br_f (ws_nt (f := ph) (by omega) e0) h⟩⟩)
theorem wx_ref_0 {post : Int32 → Prop} (hp : p < n) (h6 : n ≤ 6) (eh : H p = 0) (e0 : ph p = 0) (h : post 0) : wpX_refusalToBegin post ((nI n), (nI L), (nI w), (nI ub), vV, vC, hV, H, ph, st, it, sw, ew, lb, vw, co, nx, lc, mc, fc, rv) (nI p) := by
  unfold wpX_refusalToBegin
  exact wx_in hp h6 (br_f (by decide) ⟨ws_in (by omega), br_t (ws_t (f := H) (by omega) eh) ⟨ws_in (by omega), br_t (ws_t (f := ph) (by omega) e0) h⟩⟩)
end
