/-! the relation, and a step on both sides -/
def ws_R (n L w ub : Nat) (vV vC hV ph ew vw co nx lc mc fc rv wr wn ca rd yv ra : Nat → Int32) : Prop :=
  2 ≤ n ∧ n ≤ 6 ∧ L ≤ 128 ∧ ub ≤ L ∧ w + ws_act ph n ≤ ub ∧ ws_V w vV vC wr wn ∧ ws_H n w hV wr ca ∧
  ∀ p, p < n → ws_P n w wr (fun s => ra (p * 64 + s)) (rd p) (ph p) (ew p) (vw p) (yv p) (co p) (nx p) (lc p) (fun j => mc (p * 6 + j)) (fun j => fc (p * 6 + j)) (fun j => rv (p * 6 + j))
def ws_S (n : Nat) (u : SX) (v : SY) : Prop := ∃ (L w ub : Nat) (vV vC hV H ph st it sw ew lb vw co nx lc mc fc rv wr wn ca rd yv ra : Nat → Int32),
  u = ((nI n), (nI L), (nI w), (nI ub), vV, vC, hV, H, ph, st, it, sw, ew, lb, vw, co, nx, lc, mc, fc, rv) ∧ v = ((nI w), (nI n), (nI L), (nI ub), wr, wn, ca, H, ph, st, rd, it, sw, ew, lb, yv, ra) ∧ ws_R n L w ub vV vC hV ph ew vw co nx lc mc fc rv wr wn ca rd yv ra
section
variable {n L w ub : Nat} {vV vC hV H ph st it sw ew lb vw co nx lc mc fc rv wr wn ca rd yv ra : Nat → Int32} {p : Nat}
theorem ws_S_i (h : ws_R n L w ub vV vC hV ph ew vw co nx lc mc fc rv wr wn ca rd yv ra) : ws_S n ((nI n), (nI L), (nI w), (nI ub), vV, vC, hV, H, ph, st, it, sw, ew, lb, vw, co, nx, lc, mc, fc, rv) ((nI w), (nI n), (nI L), (nI ub), wr, wn, ca, H, ph, st, rd, it, sw, ew, lb, yv, ra) :=
  ⟨L, w, ub, vV, vC, hV, H, ph, st, it, sw, ew, lb, vw, co, nx, lc, mc, fc, rv, wr, wn, ca, rd, yv, ra, rfl, rfl, h⟩
theorem ws_stepW (h : ws_R n L w ub vV vC hV ph ew vw co nx lc mc fc rv wr wn ca rd yv ra) (hp : p < n) (e3 : ph p = nI 3) :
    ∃ u' v', ws_S n u' v' ∧ (∀ post, post u' → wpX_takeStep post ((nI n), (nI L), (nI w), (nI ub), vV, vC, hV, H, ph, st, it, sw, ew, lb, vw, co, nx, lc, mc, fc, rv) (nI p)) ∧ (∀ post, post v' → wpY_step post ((nI w), (nI n), (nI L), (nI ub), wr, wn, ca, H, ph, st, rd, it, sw, ew, lb, yv, ra) (nI p)) := by
  obtain ⟨h2, h6, hL, hub, hact, hV', hH, hP⟩ := h
  have ac := ws_act_upd ph p 0 n hp
  rw [e3, show ws_b (nI 3) = 1 from by decide, show ws_b 0 = 0 from by decide] at ac
  have hw : w < 128 := by omega
  have hp6 : p < 6 := by omega
  obtain ⟨x, hx, ex, ey⟩ : ∃ x, x ≤ w ∧ vw p = nI x ∧ yv p = nI x := by
    obtain ⟨r, t, hr, ht, er, et, h1, h2', h3, h4, h5⟩ := hP p hp
    rw [e3] at et
    have et3 : t = 3 := ((nI_eq (by decide) (by omega)).mp et).symm
    rcases h3 with z | ⟨e, x, he, hx, z1, z2, z3⟩
    · exact absurd z.1 (h4 et3)
    · exact ⟨x, hx, z2, z3⟩
  have ec : ws_row vC (w * 6) 6 (w * 6 + 6 + p) + 1 = nI (ws_cnt wr p w + 1) := by
    rw [ws_row_hi vC (w * 6) p hp6, (hV' w p (Nat.le_refl w) hp6).1, nI_1]
  refine ⟨((nI n), (nI L), (nI (w + 1)), (nI ub), (upd (ws_row vV (w * 6) 6) (w * 6 + 6 + p) (it p)), (upd (ws_row vC (w * 6) 6) (w * 6 + 6 + p) (ws_row vC (w * 6) 6 (w * 6 + 6 + p) + 1)), (upd hV p (vw p)), H, (upd ph p 0), (upd st p (st p + 1)), it, sw, ew, lb, vw, co, nx, lc, mc, fc, rv),
    ((nI (w + 1)), (nI n), (nI L), (nI ub), (upd wr w (nI p)), (upd wn w (it p)), (upd ca w (yv p)), H, (upd ph p 0), (upd st p (st p + 1)), rd, it, sw, ew, lb, yv, ra), ?_, fun post h => wx_stepW hp6 hw e3 h, fun post h => wy_stepW hp6 hw e3 h⟩
  refine ws_S_i ⟨h2, h6, hL, hub, by omega, ?_, ?_, ?_⟩
  · rw [ec]
    exact ws_V_new hp6 hV'
  · rw [ex, ey]
    exact ws_H_new hp6 h6 hx hH
  · intro q hq
    have k := ws_P_ext (w' := w + 1) (wr' := upd wr w (nI p)) (by omega) (by omega) h6 (fun j v hv => ws_cnt_upd wr w (nI p) j v hv) (fun s _ => rfl) (fun j _ => rfl) (fun j _ => rfl) (fun j _ => rfl) (hP q hq)
    by_cases e : q = p
    · subst e
      rw [pk_us]
      exact ws_P_idle k
    · rw [pk_un e]
      exact k
theorem ws_other {q r : Nat} {A : Nat → Int32} {a b c d e f g i : Int32} (h2 : 2 ≤ n) (h6 : n ≤ 6) (hw : w ≤ 128) (hr : r < 64) (hq : q ≠ p)
    (h : ws_P n w wr (fun s => ra (q * 64 + s)) a b c d e f g i (fun j => mc (q * 6 + j)) (fun j => fc (q * 6 + j)) (fun j => rv (q * 6 + j))) :
    ws_P n w wr (fun s => upd ra (p * 64 + r) (nI w) (q * 64 + s)) a b c d e f g i (fun j => ws_MG n w r (p * 6) wr A mc (q * 6 + j)) (fun j => ws_FG n w r (p * 6) wr fc (q * 6 + j)) (fun j => upd rv (p * 6 + r % n) (nI w) (q * 6 + j)) := by
  have hml := ws_ml h2 r
  exact ws_P_ext (Nat.le_refl w) hw h6 (fun _ _ _ => rfl) (fun s hs => pk_un (ws_o64 hq hr hs)) (fun j hj => ws_MG_o _ _ _ _ _ _ _ _ (ws_o6 hq (by omega) hj)) (fun j hj => ws_FG_o _ _ _ _ _ _ _ (ws_o6 hq (by omega) hj)) (fun j hj => pk_un (ws_o6 hq (by omega) hj)) h
theorem ws_stepR (h : ws_R n L w ub vV vC hV ph ew vw co nx lc mc fc rv wr wn ca rd yv ra) (hp : p < n) {t t' : Nat} (et : ph p = nI t) (ht : (t = 1 ∧ t' = 0) ∨ (t = 2 ∧ t' = 3)) :
    ∃ u' v', ws_S n u' v' ∧ (∀ post, post u' → wpX_takeStep post ((nI n), (nI L), (nI w), (nI ub), vV, vC, hV, H, ph, st, it, sw, ew, lb, vw, co, nx, lc, mc, fc, rv) (nI p)) ∧ (∀ post, post v' → wpY_step post ((nI w), (nI n), (nI L), (nI ub), wr, wn, ca, H, ph, st, rd, it, sw, ew, lb, yv, ra) (nI p)) := by
  obtain ⟨h2, h6, hL, hub, hact, hV', hH, hP⟩ := h
  have hw : w ≤ 128 := by omega
  have hp6 : p < 6 := by omega
  have ht12 : t = 1 ∨ t = 2 := by omega
  have et3 : ¬ ph p = 3 := by
    rw [et]
    rcases ht12 with rfl | rfl <;> decide
  have ac := ws_act_upd ph p (nI t') n hp
  have eb : ws_b (ph p) = ws_b (nI t') := by
    rw [et]
    rcases ht with ⟨rfl, rfl⟩ | ⟨rfl, rfl⟩ <;> decide
  obtain ⟨r, t0, hr64, ht0, er, et0, h1, hT, h3, h4, h5⟩ := hP p hp
  have e0 : t0 = t := by
    rw [et] at et0
    exact ((nI_eq (by omega) (by omega)).mp et0).symm
  have hG := h5 (by omega)
  have hr : r < 64 := by
    have := ws_bound h2 h6 hG.2.2.2.2
    omega
  have hml := ws_ml h2 r
  have hne : (r < n ∨ ws_cnt wr (r % n) w < ws_cnt wr (r % n) (ra (p * 64 + r % n)).toNatClampNeg + 2) → n ≤ r → ws_cnt wr (r % n) w < ws_cnt wr (r % n) (ra (p * 64 + r % n)).toNatClampNeg + 2 := by
    intro z y
    omega
  by_cases cA : n ≤ r ∧ ws_cnt wr (r % n) (ra (p * 64 + r % n)).toNatClampNeg + 2 ≤ ws_cnt wr (r % n) w
  · obtain ⟨eh, x, hx, ex⟩ := hH (r % n) hml
    refine ⟨((nI n), (nI L), (nI w), (nI ub), vV, vC, hV, H, (upd ph p (nI t')), (upd st p (st p + 1)), it, sw, (upd ew p (nI w)), (upd lb p (nI (r % n))), (upd vw p (hV (r % n))), co, nx, lc, (ws_MG n w r (p * 6) wr (fun s => ra (p * 64 + s)) mc), (ws_FG n w r (p * 6) wr fc), (upd rv (p * 6 + r % n) (nI w))),
      ((nI w), (nI n), (nI L), (nI ub), wr, wn, ca, H, (upd ph p (nI t')), (upd st p (st p + 1)), (upd rd p (nI (r + 1))), it, sw, (upd ew p (nI w)), (upd lb p (nI (r % n))), (upd yv p (ws_last wr ca (r % n) w)), (upd ra (p * 64 + r) (nI w))), ?_, fun post h => ?_, fun post h => ?_⟩
    · refine ws_S_i ⟨h2, h6, hL, hub, by omega, hV', hH, ?_⟩
      intro q hq
      by_cases e : q = p
      · subst e
        rw [pk_us, pk_us, pk_us, pk_us, pk_us, ← eh, ex, ws_loc ra (q * 64) r (nI w), ws_MG_loc, ws_FG_loc, ws_loc rv (q * 6) (r % n) (nI w)]
        exact ws_P_end h2 hw hr (by omega) h1 hT hx _ _ _
      · rw [pk_un e, pk_un e, pk_un e, pk_un e, pk_un e]
        exact ws_other h2 h6 hw hr e (hP q hq)
    · exact wx_stepR hp6 et3 hG.2.1 (wx_read hp6 h2 h6 hw hr hV' h1 hT hG et ht (fun _ _ => h) (fun z => by omega) (fun _ z => by omega) (fun z => by omega))
    · exact wy_stepR hp6 et3 (wy_read hp h2 h6 hw hr er h1 et ht (fun _ _ => h) (fun z => by omega) (fun _ z => by omega) (fun z => by omega))
  · by_cases cB : r % n + 1 < n
    · refine ⟨((nI n), (nI L), (nI w), (nI ub), vV, vC, hV, H, ph, (upd st p (st p + 1)), it, sw, ew, lb, vw, co, (upd nx p (nI (r % n + 1))), lc, (ws_MG n w r (p * 6) wr (fun s => ra (p * 64 + s)) mc), (ws_FG n w r (p * 6) wr fc), (upd rv (p * 6 + r % n) (nI w))),
        ((nI w), (nI n), (nI L), (nI ub), wr, wn, ca, H, ph, (upd st p (st p + 1)), (upd rd p (nI (r + 1))), it, sw, ew, lb, yv, (upd ra (p * 64 + r) (nI w))), ?_, fun post h => ?_, fun post h => ?_⟩
      · refine ws_S_i ⟨h2, h6, hL, hub, by omega, hV', hH, ?_⟩
        intro q hq
        by_cases e : q = p
        · subst e
          rw [pk_us, pk_us, et, ws_loc ra (q * 64) r (nI w), ws_MG_loc, ws_FG_loc, ws_loc rv (q * 6) (r % n) (nI w)]
          exact ws_P_go h2 hw hr ht12 h1 hT h3 (ws_Go_B h2 h6 hw h1 hG (hne (by omega)) cB)
        · rw [pk_un e, pk_un e]
          exact ws_other h2 h6 hw hr e (hP q hq)
      · exact wx_stepR hp6 et3 hG.2.1 (wx_read hp6 h2 h6 hw hr hV' h1 hT hG et ht (fun z y => absurd ⟨z, y⟩ cA) (fun _ _ => h) (fun _ _ z => by omega) (fun _ z => by omega))
      · exact wy_stepR hp6 et3 (wy_read hp h2 h6 hw hr er h1 et ht (fun z y => absurd ⟨z, y⟩ cA) (fun _ _ => h) (fun _ _ z => by omega) (fun _ z => by omega))
    · have cN : r % n + 1 = n := by omega
      by_cases cD : r < n ∨ ∃ i, i < n ∧ ws_mv wr (upd (fun s => ra (p * 64 + s)) r (nI w)) n i (r + 1) = r / n + 1
      · refine ⟨((nI n), (nI L), (nI w), (nI ub), vV, vC, hV, H, ph, (upd st p (st p + 1)), it, sw, ew, lb, vw, (upd co p (nI (r / n + 2))), (upd nx p 0), (upd lc p (nI w)), (ws_MG n w r (p * 6) wr (fun s => ra (p * 64 + s)) mc), (ws_FG n w r (p * 6) wr fc), (upd rv (p * 6 + r % n) (nI w))),
          ((nI w), (nI n), (nI L), (nI ub), wr, wn, ca, H, ph, (upd st p (st p + 1)), (upd rd p (nI (r + 1))), it, sw, ew, lb, yv, (upd ra (p * 64 + r) (nI w))), ?_, fun post h => ?_, fun post h => ?_⟩
        · refine ws_S_i ⟨h2, h6, hL, hub, by omega, hV', hH, ?_⟩
          intro q hq
          by_cases e : q = p
          · subst e
            rw [pk_us, pk_us, pk_us, pk_us, et, ws_loc ra (q * 64) r (nI w), ws_MG_loc, ws_FG_loc, ws_loc rv (q * 6) (r % n) (nI w)]
            exact ws_P_go h2 hw hr ht12 h1 hT h3 (ws_Go_D h2 h6 hw h1 hG (hne (by omega)) cN (fun z => cD.resolve_left (by omega)))
          · rw [pk_un e, pk_un e, pk_un e, pk_un e]
            exact ws_other h2 h6 hw hr e (hP q hq)
        · exact wx_stepR hp6 et3 hG.2.1 (wx_read hp6 h2 h6 hw hr hV' h1 hT hG et ht (fun z y => absurd ⟨z, y⟩ cA) (fun _ z => by omega) (fun z _ _ y => absurd cD (fun c => c.elim (fun a => by omega) (fun ⟨i, hi, b⟩ => y i hi b))) (fun _ _ _ => h))
        · exact wy_stepR hp6 et3 (wy_read hp h2 h6 hw hr er h1 et ht (fun z y => absurd ⟨z, y⟩ cA) (fun _ z => by omega) (fun z _ _ y => absurd cD (fun c => c.elim (fun a => by omega) (fun ⟨i, hi, b⟩ => y i hi b))) (fun _ _ _ => h))
      · have hnr : n ≤ r := by
          by_cases c : n ≤ r
          · exact c
          · exact absurd (Or.inl (by omega)) cD
        obtain ⟨x, hx, ex⟩ := h1 (r - n) (by omega)
        have el : lc p = nI x := by
          rw [hG.2.2.1 hnr, (ws_dm2 h2 h6 r cN).2.2.2 hnr]
          exact ex
        refine ⟨((nI n), (nI L), (nI w), (nI ub), vV, vC, hV, H, (upd ph p (nI t')), (upd st p (st p + 1)), it, sw, (upd ew p (nI w)), (upd lb p (-7)), (upd vw p (lc p)), co, nx, lc, (ws_MG n w r (p * 6) wr (fun s => ra (p * 64 + s)) mc), (ws_FG n w r (p * 6) wr fc), (upd rv (p * 6 + r % n) (nI w))),
          ((nI w), (nI n), (nI L), (nI ub), wr, wn, ca, H, (upd ph p (nI t')), (upd st p (st p + 1)), (upd rd p (nI (r + 1))), it, sw, (upd ew p (nI w)), (upd lb p (-7)), (upd yv p (ra (p * 64 + (r - n)))), (upd ra (p * 64 + r) (nI w))), ?_, fun post h => ?_, fun post h => ?_⟩
        · refine ws_S_i ⟨h2, h6, hL, hub, by omega, hV', hH, ?_⟩
          intro q hq
          by_cases e : q = p
          · subst e
            rw [pk_us, pk_us, pk_us, pk_us, pk_us, el, show ra (q * 64 + (r - n)) = nI x from ex, ws_loc ra (q * 64) r (nI w), ws_MG_loc, ws_FG_loc, ws_loc rv (q * 6) (r % n) (nI w)]
            exact ws_P_end h2 hw hr (by omega) h1 hT hx _ _ _
          · rw [pk_un e, pk_un e, pk_un e, pk_un e, pk_un e]
            exact ws_other h2 h6 hw hr e (hP q hq)
        · exact wx_stepR hp6 et3 hG.2.1 (wx_read hp6 h2 h6 hw hr hV' h1 hT hG et ht (fun z y => absurd ⟨z, y⟩ cA) (fun _ z => by omega) (fun _ _ _ _ => h) (fun _ _ z => absurd z cD))
        · exact wy_stepR hp6 et3 (wy_read hp h2 h6 hw hr er h1 et ht (fun z y => absurd ⟨z, y⟩ cA) (fun _ z => by omega) (fun _ _ _ _ => h) (fun _ _ z => absurd z cD))
theorem ws_step (h : ws_R n L w ub vV vC hV ph ew vw co nx lc mc fc rv wr wn ca rd yv ra) (hp : p < n) (h0 : ¬ ph p = 0) :
    ∃ u' v', ws_S n u' v' ∧ (∀ post, post u' → wpX_takeStep post ((nI n), (nI L), (nI w), (nI ub), vV, vC, hV, H, ph, st, it, sw, ew, lb, vw, co, nx, lc, mc, fc, rv) (nI p)) ∧ (∀ post, post v' → wpY_step post ((nI w), (nI n), (nI L), (nI ub), wr, wn, ca, H, ph, st, rd, it, sw, ew, lb, yv, ra) (nI p)) := by
  obtain ⟨r, t, hr, ht, er, et, _⟩ := h.2.2.2.2.2.2.2 p hp
  have h4 : t = 0 ∨ t = 1 ∨ t = 2 ∨ t = 3 := by omega
  rcases h4 with rfl | rfl | rfl | rfl
  · exact absurd et h0
  · exact ws_stepR h hp (t' := 0) et (Or.inl ⟨rfl, rfl⟩)
  · exact ws_stepR h hp (t' := 3) et (Or.inr ⟨rfl, rfl⟩)
  · exact ws_stepW h hp et
end
