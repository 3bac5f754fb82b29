/-! begins, halt and what is told -/
section
variable {n L w ub : Nat} {vV vC hV H ph st it sw ew lb vw co nx lc mc fc rv wr wn ca rd yv ra : Nat → Int32} {p : Nat}
theorem wx_ref_out {post : Int32 → Prop} {x : Int32} (z : x < 0 ∨ nI n ≤ x) (h : post (-1)) : wpX_refusalToBegin post ((nI n), (nI L), (nI w), (nI ub), vV, vC, hV, H, ph, st, it, sw, ew, lb, vw, co, nx, lc, mc, fc, rv) x := by
  unfold wpX_refusalToBegin
  exact wx_out z (br_t rfl h)
theorem wx_ref_h {post : Int32 → Prop} (hp : p < n) (h6 : n ≤ 6) (eh : ¬ H p = 0) (h : post (-2)) : wpX_refusalToBegin post ((nI n), (nI L), (nI w), (nI ub), vV, vC, hV, H, ph, st, it, sw, ew, lb, vw, co, nx, lc, mc, fc, rv) (nI p) := by
  unfold wpX_refusalToBegin
  exact wx_in hp h6 (br_f (by decide) ⟨ws_in (by omega), br_f (ws_nt (f := H) (by omega) eh) h⟩)
theorem wx_ref_b {post : Int32 → Prop} (hp : p < n) (h6 : n ≤ 6) (eh : H p = 0) (e0 : ¬ ph p = 0) (h : post (-3)) : wpX_refusalToBegin post ((nI n), (nI L), (nI w), (nI ub), vV, vC, hV, H, ph, st, it, sw, ew, lb, vw, co, nx, lc, mc, fc, rv) (nI p) := by
  unfold wpX_refusalToBegin
  exact wx_in hp h6 (br_f (by decide) ⟨ws_in (by omega), br_t (ws_t (f := H) (by omega) eh) ⟨ws_in (by omega), br_f (ws_nt (f := ph) (by omega) e0) h⟩⟩)
theorem wx_ref_0 {post : Int32 → Prop} (hp : p < n) (h6 : n ≤ 6) (eh : H p = 0) (e0 : ph p = 0) (h : post 0) : wpX_refusalToBegin post ((nI n), (nI L), (nI w), (nI ub), vV, vC, hV, H, ph, st, it, sw, ew, lb, vw, co, nx, lc, mc, fc, rv) (nI p) := by
  unfold wpX_refusalToBegin
  exact wx_in hp h6 (br_f (by decide) ⟨ws_in (by omega), br_t (ws_t (f := H) (by omega) eh) ⟨ws_in (by omega), br_t (ws_t (f := ph) (by omega) e0) h⟩⟩)
theorem wy_begin {post : Int32 → SY → Prop} {t : Int32} (hp : p < 6) (h : post 0 ((nI w), (nI n), (nI L), (nI ub), wr, wn, ca, H, (upd ph p t), (upd st p 0), (upd rd p 0), it, (upd sw p (nI w)), (upd ew p (-6)), (upd lb p (-6)), yv, ra)) : wpY_begin post ((nI w), (nI n), (nI L), (nI ub), wr, wn, ca, H, ph, st, rd, it, sw, ew, lb, yv, ra) (nI p) t := by
  have i : vp_in (nI p) 6 := ws_in hp
  exact ⟨i, nm_r (ws_u (by omega) ph t) ⟨i, nm_r (ws_u (by omega) st 0) ⟨i, nm_r (ws_u (by omega) rd 0) ⟨i, nm_r (ws_u (by omega) sw (nI w)) ⟨i, nm_r (ws_u (by omega) ew (-6)) ⟨i, nm_r (ws_u (by omega) lb (-6)) h⟩⟩⟩⟩⟩⟩
theorem ws_begun {t ub' : Nat} (hR : ws_R n L w ub vV vC hV ph ew vw co nx lc mc fc rv wr wn ca rd yv ra) (hp : p < n) (e0 : ph p = 0) (ht : (t = 1 ∧ ub' = ub) ∨ (t = 2 ∧ ub' = ub + 1 ∧ ub < L)) :
    ws_R n L w ub' vV vC hV (upd ph p (nI t)) (upd ew p (-6)) (upd vw p (-6)) (upd co p 1) (upd nx p 0) lc (ws_fill mc (p * 6) 6 0) fc (ws_fill rv (p * 6) 6 (-6)) wr wn ca (upd rd p 0) yv ra := by
  obtain ⟨h2, h6, hL, hub, hact, hV', hH, hP⟩ := hR
  have ac := ws_act_upd ph p (nI t) n hp
  rw [e0, show ws_b 0 = 0 from by decide] at ac
  have bt : ws_b (nI t) = ub' - ub ∧ ub ≤ ub' ∧ ub' ≤ L := by
    rcases ht with ⟨rfl, rfl⟩ | ⟨rfl, rfl, z⟩
    · exact ⟨by rw [Nat.sub_self]; decide, by omega, by omega⟩
    · exact ⟨by rw [Nat.add_sub_cancel_left]; decide, by omega, by omega⟩
  refine ⟨h2, h6, hL, by omega, by omega, hV', hH, ?_⟩
  intro q hq
  by_cases e : q = p
  · subst e
    rw [pk_us, pk_us, pk_us, pk_us, pk_us, pk_us]
    exact ws_P_new h2 (by omega) (fun j hj => ws_fill_in mc (q * 6) 6 0 j hj) (fun j hj => ws_fill_in rv (q * 6) 6 (-6) j hj) h6
  · rw [pk_un e, pk_un e, pk_un e, pk_un e, pk_un e, pk_un e]
    exact ws_P_ext (Nat.le_refl w) (by omega) h6 (fun _ _ _ => rfl) (fun _ _ => rfl) (fun j hj => ws_fill_out _ _ _ _ _ (by omega)) (fun _ _ => rfl) (fun j hj => ws_fill_out _ _ _ _ _ (by omega)) (hP q hq)
theorem ws_scan (hR : ws_R n L w ub vV vC hV ph ew vw co nx lc mc fc rv wr wn ca rd yv ra) (v1 : Int32) :
    ∃ r u' v', ws_S n u' v' ∧ (∀ post, post r u' → wpX_beginScan post ((nI n), (nI L), (nI w), (nI ub), vV, vC, hV, H, ph, st, it, sw, ew, lb, vw, co, nx, lc, mc, fc, rv) v1) ∧ (∀ post, post r v' → wpY_beginScan post ((nI w), (nI n), (nI L), (nI ub), wr, wn, ca, H, ph, st, rd, it, sw, ew, lb, yv, ra) v1) := by
  have h6 := hR.2.1
  have s0 := ws_S_i (H := H) (st := st) (it := it) (sw := sw) (lb := lb) hR
  by_cases z : v1 < 0 ∨ nI n ≤ v1
  · refine ⟨-1, _, _, s0, fun post h => ?_, fun post h => ?_⟩
    · unfold wpX_beginScan
      exact wx_ref_out z (br_f (by decide) h)
    · unfold wpY_beginScan
      exact wy_out z (br_f (by decide) h)
  · obtain ⟨p, hp, rfl⟩ : ∃ p : Nat, p < n ∧ v1 = nI p := by
      rcases pk_ix v1 (show n < 2 ^ 31 by omega) with y | y | y
      · exact absurd (Or.inl y) z
      · exact absurd (Or.inr y) z
      · exact y
    have hp6 : p < 6 := by omega
    by_cases eh : H p = 0
    · by_cases e0 : ph p = 0
      · refine ⟨0, _, _, ws_S_i (H := H) (st := upd st p 0) (it := it) (sw := upd sw p (nI w)) (lb := upd lb p (-6)) (ws_begun (t := 1) hR hp e0 (Or.inl ⟨rfl, rfl⟩)), fun post h => ?_, fun post h => ?_⟩
        · unfold wpX_beginScan
          refine wx_ref_0 hp h6 eh e0 (br_t rfl ?_)
          exact wx_begin hp6 h
        · unfold wpY_beginScan
          refine wy_in hp h6 (br_t rfl ⟨ws_in hp6, br_t (ws_t (f := H) (by omega) eh) ⟨ws_in hp6, br_t (ws_t (f := ph) (by omega) e0) ?_⟩⟩)
          exact wy_begin hp6 h
      · refine ⟨-3, _, _, s0, fun post h => ?_, fun post h => ?_⟩
        · unfold wpX_beginScan
          exact wx_ref_b hp h6 eh e0 (br_f (by decide) h)
        · unfold wpY_beginScan
          exact wy_in hp h6 (br_t rfl ⟨ws_in hp6, br_t (ws_t (f := H) (by omega) eh) ⟨ws_in hp6, br_f (ws_nt (f := ph) (by omega) e0) h⟩⟩)
    · refine ⟨-2, _, _, s0, fun post h => ?_, fun post h => ?_⟩
      · unfold wpX_beginScan
        exact wx_ref_h hp h6 eh (br_f (by decide) h)
      · unfold wpY_beginScan
        exact wy_in hp h6 (br_t rfl ⟨ws_in hp6, br_f (ws_nt (f := H) (by omega) eh) h⟩)
theorem ws_update (hR : ws_R n L w ub vV vC hV ph ew vw co nx lc mc fc rv wr wn ca rd yv ra) (v1 v2 : Int32) :
    ∃ r u' v', ws_S n u' v' ∧ (∀ post, post r u' → wpX_beginUpdate post ((nI n), (nI L), (nI w), (nI ub), vV, vC, hV, H, ph, st, it, sw, ew, lb, vw, co, nx, lc, mc, fc, rv) v1 v2) ∧ (∀ post, post r v' → wpY_beginUpdate post ((nI w), (nI n), (nI L), (nI ub), wr, wn, ca, H, ph, st, rd, it, sw, ew, lb, yv, ra) v1 v2) := by
  have h6 := hR.2.1
  have hL := hR.2.2.1
  have hub := hR.2.2.2.1
  have s0 := ws_S_i (H := H) (st := st) (it := it) (sw := sw) (lb := lb) hR
  by_cases z : v1 < 0 ∨ nI n ≤ v1
  · refine ⟨-1, _, _, s0, fun post h => ?_, fun post h => ?_⟩
    · unfold wpX_beginUpdate
      exact wx_ref_out z (br_f (by decide) h)
    · unfold wpY_beginUpdate
      exact wy_out z (br_f (by decide) h)
  · obtain ⟨p, hp, rfl⟩ : ∃ p : Nat, p < n ∧ v1 = nI p := by
      rcases pk_ix v1 (show n < 2 ^ 31 by omega) with y | y | y
      · exact absurd (Or.inl y) z
      · exact absurd (Or.inr y) z
      · exact y
    have hp6 : p < 6 := by omega
    by_cases eh : H p = 0
    · by_cases e0 : ph p = 0
      · by_cases hf : ub < L
        · refine ⟨0, _, _, ws_S_i (H := H) (st := upd st p 0) (it := upd it p v2) (sw := upd sw p (nI w)) (lb := upd lb p (-6)) (ws_begun (t := 2) hR hp e0 (Or.inr ⟨rfl, rfl, hf⟩)), fun post h => ?_, fun post h => ?_⟩
          · unfold wpX_beginUpdate
            refine wx_ref_0 hp h6 eh e0 (br_t rfl (br_t (nI_lt hf (by omega)) (nm_r (nI_1 ub) ?_)))
            exact wx_begin hp6 ⟨ws_in hp6, nm_r (ws_u (by omega) it v2) h⟩
          · unfold wpY_beginUpdate
            refine wy_in hp h6 (br_t rfl ⟨ws_in hp6, br_t (ws_t (f := H) (by omega) eh) ⟨ws_in hp6, br_t (ws_t (f := ph) (by omega) e0) (br_t (nI_lt hf (by omega)) (nm_r (nI_1 ub) ⟨ws_in hp6, nm_r (ws_u (by omega) it v2) ?_⟩))⟩⟩)
            exact wy_begin hp6 h
        · refine ⟨-4, _, _, s0, fun post h => ?_, fun post h => ?_⟩
          · unfold wpX_beginUpdate
            exact wx_ref_0 hp h6 eh e0 (br_t rfl (br_f (nI_nlt (by omega) (by omega)) h))
          · unfold wpY_beginUpdate
            exact wy_in hp h6 (br_t rfl ⟨ws_in hp6, br_t (ws_t (f := H) (by omega) eh) ⟨ws_in hp6, br_t (ws_t (f := ph) (by omega) e0) (br_f (nI_nlt (by omega) (by omega)) h)⟩⟩)
      · refine ⟨-3, _, _, s0, fun post h => ?_, fun post h => ?_⟩
        · unfold wpX_beginUpdate
          exact wx_ref_b hp h6 eh e0 (br_f (by decide) h)
        · unfold wpY_beginUpdate
          exact wy_in hp h6 (br_t rfl ⟨ws_in hp6, br_t (ws_t (f := H) (by omega) eh) ⟨ws_in hp6, br_f (ws_nt (f := ph) (by omega) e0) h⟩⟩)
    · refine ⟨-2, _, _, s0, fun post h => ?_, fun post h => ?_⟩
      · unfold wpX_beginUpdate
        exact wx_ref_h hp h6 eh (br_f (by decide) h)
      · unfold wpY_beginUpdate
        exact wy_in hp h6 (br_t rfl ⟨ws_in hp6, br_f (ws_nt (f := H) (by omega) eh) h⟩)
theorem ws_halt (hR : ws_R n L w ub vV vC hV ph ew vw co nx lc mc fc rv wr wn ca rd yv ra) (v1 : Int32) :
    ∃ r u' v', ws_S n u' v' ∧ (∀ post, post r u' → wpX_halt post ((nI n), (nI L), (nI w), (nI ub), vV, vC, hV, H, ph, st, it, sw, ew, lb, vw, co, nx, lc, mc, fc, rv) v1) ∧ (∀ post, post r v' → wpY_halt post ((nI w), (nI n), (nI L), (nI ub), wr, wn, ca, H, ph, st, rd, it, sw, ew, lb, yv, ra) v1) := by
  have h6 := hR.2.1
  have s0 := ws_S_i (H := H) (st := st) (it := it) (sw := sw) (lb := lb) hR
  by_cases z : v1 < 0 ∨ nI n ≤ v1
  · refine ⟨-1, _, _, s0, fun post h => ?_, fun post h => ?_⟩
    · unfold wpX_halt
      exact wx_out z (br_t rfl h)
    · unfold wpY_halt
      exact wy_out z (br_f (by decide) h)
  · obtain ⟨p, hp, rfl⟩ : ∃ p : Nat, p < n ∧ v1 = nI p := by
      rcases pk_ix v1 (show n < 2 ^ 31 by omega) with y | y | y
      · exact absurd (Or.inl y) z
      · exact absurd (Or.inr y) z
      · exact y
    have hp6 : p < 6 := by omega
    by_cases eh : H p = 0
    · refine ⟨0, _, _, ws_S_i (H := upd H p (vp_nar .boolean 1)) (st := st) (it := it) (sw := sw) (lb := lb) hR, fun post h => ?_, fun post h => ?_⟩
      · unfold wpX_halt
        exact wx_in hp h6 (br_f (by decide) ⟨ws_in hp6, br_t (ws_t (f := H) (by omega) eh) ⟨ws_in hp6, nm_r (ws_u (by omega) H _) h⟩⟩)
      · unfold wpY_halt
        exact wy_in hp h6 (br_t rfl ⟨ws_in hp6, br_t (ws_t (f := H) (by omega) eh) ⟨ws_in hp6, nm_r (ws_u (by omega) H _) h⟩⟩)
    · refine ⟨-2, _, _, s0, fun post h => ?_, fun post h => ?_⟩
      · unfold wpX_halt
        exact wx_in hp h6 (br_f (by decide) ⟨ws_in hp6, br_f (ws_nt (f := H) (by omega) eh) h⟩)
      · unfold wpY_halt
        exact wy_in hp h6 (br_t rfl ⟨ws_in hp6, br_f (ws_nt (f := H) (by omega) eh) h⟩)
end
