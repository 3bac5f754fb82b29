/-! the picture of the law, and a step in it -/
def wq_R (n L w ub : Nat) (m : Int32) (B : Nat → Nat) (vV vC hV ph st it sw ew vw co nx lc mc fc rv wr wn rd ra : Nat → Int32) : Prop :=
  2 ≤ n ∧ n ≤ 6 ∧ L ≤ 63 ∧ ub ≤ L ∧ w + ws_act ph n ≤ ub ∧ ws_V w vV vC wr wn ∧ wq_H n w hV wr ∧ wq_L n w m wr wn ∧
  (∀ p, p < n → ws_P n w wr (fun s => ra (p * 64 + s)) (rd p) (ph p) (ew p) (vw p) (vw p) (co p) (nx p) (lc p) (fun j => mc (p * 6 + j)) (fun j => fc (p * 6 + j)) (fun j => rv (p * 6 + j))) ∧
  (∀ p, p < n → wq_E n w m wr p (fun s => ra (p * 64 + s)) (B p) (rd p) (ph p) (st p) (it p) (sw p) (ew p) (vw p))
def wq_S (n L : Nat) (m : Int32) (B : Nat → Nat) (H : Nat → Int32) (w : Nat) (wr ph st : Nat → Int32) (u : St2) : Prop :=
  ∃ (ub : Nat) (vV vC hV it sw ew lb vw co nx lc mc fc rv wn rd ra : Nat → Int32), u = ((nI n), (nI L), (nI w), (nI ub), vV, vC, hV, H, ph, st, it, sw, ew, lb, vw, co, nx, lc, mc, fc, rv) ∧ wq_R n L w ub m B vV vC hV ph st it sw ew vw co nx lc mc fc rv wr wn rd ra
def wq_T (p w : Nat) (wr ph st : Nat → Int32) (w' : Nat) (wr' ph' st' : Nat → Int32) : Prop :=
  ((w' = w ∧ wr' = wr) ∨ (w' = w + 1 ∧ wr' = upd wr w (nI p) ∧ ph' p = 0)) ∧ (∀ q, q ≠ p → ph' q = ph q) ∧ st' = upd st p (st p + 1)
section
variable {n L w ub : Nat} {m : Int32} {B : Nat → Nat} {vV vC hV H ph st it sw ew lb vw co nx lc mc fc rv wr wn rd ra : Nat → Int32} {p : Nat}
theorem wq_S_i (h : wq_R n L w ub m B vV vC hV ph st it sw ew vw co nx lc mc fc rv wr wn rd ra) : wq_S n L m B H w wr ph st ((nI n), (nI L), (nI w), (nI ub), vV, vC, hV, H, ph, st, it, sw, ew, lb, vw, co, nx, lc, mc, fc, rv) :=
  ⟨ub, vV, vC, hV, it, sw, ew, lb, vw, co, nx, lc, mc, fc, rv, wn, rd, ra, rfl, h⟩
theorem wq_stepW (h : wq_R n L w ub m B vV vC hV ph st it sw ew vw co nx lc mc fc rv wr wn rd ra) (hp : p < n) (e3 : ph p = nI 3) :
    ∃ w' wr' ph' st' u', wq_S n L m B H w' wr' ph' st' u' ∧ wq_T p w wr ph st w' wr' ph' st' ∧ (∀ post, post u' → wpX_takeStep post ((nI n), (nI L), (nI w), (nI ub), vV, vC, hV, H, ph, st, it, sw, ew, lb, vw, co, nx, lc, mc, fc, rv) (nI p)) := by
  obtain ⟨h2, h6, hL, hub, hact, hV', hH, hLg, hP, hE⟩ := h
  have ac := ws_act_upd ph p 0 n hp
  rw [e3, show ws_b (nI 3) = 1 from by decide, show ws_b 0 = 0 from by decide] at ac
  have hw : w < 128 := by omega
  have hp6 : p < 6 := by omega
  have hEp := hE p hp
  obtain ⟨r, t, k, b1, b2, b3, b4, b5, b6, b7, b8, b9, b10, b11⟩ := hEp
  have et : t = 3 := ((nI_eq (by decide) (by omega)).mp (e3.symm.trans b3)).symm
  subst et
  have b10' := b10 (Or.inr rfl)
  have b8' := b8 (by omega)
  have b9' := b9 rfl
  obtain ⟨s0, a1, a2, a3, a4, a5, a6⟩ := b11.resolve_left (fun z => by omega)
  obtain ⟨x, e, c1, c2, c3, c4, c5⟩ := a5 (Or.inr rfl)
  have ca := a4 (by omega)
  have hx : x ≤ w := by omega
  have hcx : ws_cnt wr p w ≤ ws_cnt wr p x := by
    have := ws_cnt_mon wr p c1
    omega
  have ec : ws_row vC (w * 6) 6 (w * 6 + 6 + p) + 1 = nI (ws_cnt wr p w + 1) := by
    rw [ws_row_hi vC (w * 6) p hp6, (hV' w p (Nat.le_refl w) hp6).1, nI_1]
  refine ⟨w + 1, upd wr w (nI p), upd ph p 0, upd st p (st p + 1), ((nI n), (nI L), (nI (w + 1)), (nI ub), (upd (ws_row vV (w * 6) 6) (w * 6 + 6 + p) (it p)), (upd (ws_row vC (w * 6) 6) (w * 6 + 6 + p) (ws_row vC (w * 6) 6 (w * 6 + 6 + p) + 1)), (upd hV p (vw p)), H, (upd ph p 0), (upd st p (st p + 1)), it, sw, ew, lb, vw, co, nx, lc, mc, fc, rv),
    ?_, ⟨Or.inr ⟨rfl, rfl, pk_us⟩, fun q hq => pk_un hq, rfl⟩, fun post h => wx_stepW hp6 hw e3 h⟩
  refine wq_S_i (wn := upd wn w (it p)) (rd := rd) (ra := ra) ⟨h2, h6, hL, hub, by omega, ?_, ?_, wq_L_new hp hLg b10'.2, ?_, ?_⟩
  · rw [ec]
    exact ws_V_new hp6 hV'
  · rw [c4]
    exact wq_H_new hp h6 hx hcx hH
  · intro q hq
    have k := ws_P_ext (w' := w + 1) (wr' := upd wr w (nI p)) (by omega) (by omega) h6 (fun j v hv => ws_cnt_upd wr w (nI p) j v hv) (fun s _ => rfl) (fun j _ => rfl) (fun j _ => rfl) (fun j _ => rfl) (hP q hq)
    by_cases e : q = p
    · subst e
      rw [pk_us]
      exact ws_P_idle k
    · rw [pk_un e]
      exact k
  · intro q hq
    by_cases e' : q = p
    · subst e'
      rw [pk_us, pk_us]
      refine ⟨r, 0, k + 1, b1, b2, rfl, by omega, by rw [b5, nI_1], by omega, b7, fun z => absurd rfl z, fun z => by omega, fun z => by omega, Or.inr ⟨s0, by omega, a2, a3, fun z => absurd rfl z, fun _ => ⟨x, e, c1, c2, by omega, c4, c5⟩, fun z => by omega⟩⟩
    · rw [pk_un e', pk_un e']
      exact wq_E_ext (by omega) (fun v hv => ws_cnt_upd wr w (nI p) q v hv) (by rw [ws_cnt_new wr w p q (by omega) (by omega), if_neg (fun z => e' z.symm)]) (fun s _ => rfl) (hE q hq)
theorem wq_otherP {q r : Nat} {A : Nat → Int32} {a b c d e f g i : Int32} (h2 : 2 ≤ n) (h6 : n ≤ 6) (hw : w ≤ 128) (hr : r < 64) (hq : q ≠ p)
    (h : ws_P n w wr (fun s => ra (q * 64 + s)) a b c d e f g i (fun j => mc (q * 6 + j)) (fun j => fc (q * 6 + j)) (fun j => rv (q * 6 + j))) :
    ws_P n w wr (fun s => upd ra (p * 64 + r) (nI w) (q * 64 + s)) a b c d e f g i (fun j => ws_MG n w r (p * 6) wr A mc (q * 6 + j)) (fun j => ws_FG n w r (p * 6) wr fc (q * 6 + j)) (fun j => upd rv (p * 6 + r % n) (nI w) (q * 6 + j)) := by
  have hml := ws_ml h2 r
  exact ws_P_ext (Nat.le_refl w) hw h6 (fun _ _ _ => rfl) (fun s hs => pk_un (ws_o64 hq hr hs)) (fun j hj => ws_MG_o _ _ _ _ _ _ _ _ (ws_o6 hq (by omega) hj)) (fun j hj => ws_FG_o _ _ _ _ _ _ _ (ws_o6 hq (by omega) hj)) (fun j hj => pk_un (ws_o6 hq (by omega) hj)) h
theorem wq_otherE {q r b : Nat} {a c d e f g i : Int32} (hr : r < 64) (hq : q ≠ p) (h : wq_E n w m wr q (fun s => ra (q * 64 + s)) b a c d e f g i) : wq_E n w m wr q (fun s => upd ra (p * 64 + r) (nI w) (q * 64 + s)) b a c d e f g i :=
  wq_E_ext (Nat.le_refl w) (fun _ _ => rfl) rfl (fun s hs => pk_un (ws_o64 hq hr hs)) h
/-- E after a read that goes on, and after one that ends the reading -/
theorem wq_E_go {A : Nat → Int32} {b r t s0 : Nat} {it sw ew : Int32} (hr : r < 64) (hb : r < n * (n + 1)) (hw : w ≤ 128) (ht : t = 1 ∨ t = 2) (hb1 : b ≤ 1) (h2 : t = 2 → b = 1 ∧ it = wq_val m p (ws_cnt wr p w + 1))
    (a1 : s0 ≤ w) (a2 : sw = nI s0) (a3 : ∀ s, s < r → s0 ≤ (A s).toNatClampNeg) (a4 : ws_cnt wr p s0 = ws_cnt wr p w) : wq_E n w m wr p (upd A r (nI w)) b (nI (r + 1)) (nI t) (nI r + 1) it sw ew (-6) := by
  refine ⟨r + 1, t, r + 1, rfl, by omega, rfl, by omega, nI_1 r, by omega, hb1, fun _ => rfl, fun z => by omega, fun z => h2 (by omega), Or.inr ⟨s0, a1, a2, fun s hs => ?_, fun _ => a4, fun z => by omega, fun _ => rfl⟩⟩
  by_cases e : s = r
  · rw [e, pk_us, nI_clamp (by omega)]
    exact a1
  · rw [pk_un e]
    exact a3 s (by omega)
theorem wq_E_end {A : Nat → Int32} {b r t t' s0 x : Nat} {it sw : Int32} (hr : r < 64) (hb : r < n * (n + 1)) (hw : w ≤ 128) (ht : (t = 1 ∧ t' = 0) ∨ (t = 2 ∧ t' = 3)) (hb1 : b ≤ 1) (h2 : t = 2 → b = 1 ∧ it = wq_val m p (ws_cnt wr p w + 1))
    (a1 : s0 ≤ w) (a2 : sw = nI s0) (a3 : ∀ s, s < r → s0 ≤ (A s).toNatClampNeg) (a4 : ws_cnt wr p s0 = ws_cnt wr p w) (x1 : s0 ≤ x) (x2 : x ≤ w) : wq_E n w m wr p (upd A r (nI w)) b (nI (r + 1)) (nI t') (nI r + 1) it sw (nI w) (nI x) := by
  refine ⟨r + 1, t', r + 1, rfl, by omega, rfl, by omega, nI_1 r, by omega, hb1, fun _ => rfl, fun z => by omega, fun z => h2 (by omega), Or.inr ⟨s0, a1, a2, fun s hs => ?_, fun _ => a4, fun _ => ⟨x, w, x1, x2, Nat.le_refl w, rfl, rfl⟩, fun z => by omega⟩⟩
  by_cases e : s = r
  · rw [e, pk_us, nI_clamp (by omega)]
    exact a1
  · rw [pk_un e]
    exact a3 s (by omega)
theorem wq_stepR (h : wq_R n L w ub m B vV vC hV ph st it sw ew vw co nx lc mc fc rv wr wn rd ra) (hp : p < n) {t t' : Nat} (et : ph p = nI t) (ht : (t = 1 ∧ t' = 0) ∨ (t = 2 ∧ t' = 3)) :
    ∃ w' wr' ph' st' u', wq_S n L m B H w' wr' ph' st' u' ∧ wq_T p w wr ph st w' wr' ph' st' ∧ (∀ post, post u' → wpX_takeStep post ((nI n), (nI L), (nI w), (nI ub), vV, vC, hV, H, ph, st, it, sw, ew, lb, vw, co, nx, lc, mc, fc, rv) (nI p)) := by
  obtain ⟨h2, h6, hL, hub, hact, hV', hH, hLg, hP, hE⟩ := h
  have hw : w ≤ 128 := by omega
  have hp6 : p < 6 := by omega
  have ht12 : t = 1 ∨ t = 2 := by omega
  have et3 : ¬ ph p = 3 := by
    rw [et]
    rcases ht12 with rfl | rfl <;> decide
  have ac := ws_act_upd ph p (nI t') n hp
  have eb : ws_b (ph p) = ws_b (nI t') := by
    rw [et]
    rcases ht with ⟨rfl, rfl⟩ | ⟨rfl, rfl⟩ <;> decide
  obtain ⟨r, t0, hr64, ht0, er, et0, h1, hT, h3, h4, h5⟩ := hP p hp
  have e0 : t0 = t := by
    rw [et] at et0
    exact ((nI_eq (by omega) (by omega)).mp et0).symm
  have hG := h5 (by omega)
  have hr : r < 64 := by
    have := ws_bound h2 h6 hG.2.2.2.2
    omega
  have hml := ws_ml h2 r
  have hEp := hE p hp
  rw [er] at hEp
  obtain ⟨k1, k2, k3, k4, s0, a1, a2, a3, a4⟩ := wq_E_read hr64 et ht12 hEp
  have own : ∀ s, s < r → ws_cnt wr p (ra (p * 64 + s)).toNatClampNeg = ws_cnt wr p w := by
    intro s hs
    have u1 := ws_cnt_mon wr p (a3 s hs)
    have u2 := ws_cnt_mon wr p (ws_Rds_c hw h1 hs).1
    omega
  have hb : r < n * (n + 1) := wq_bound h2 h6 hp hG.2.2.2.2 (wq_mv_const r own)
  have hne : (r < n ∨ ws_cnt wr (r % n) w < ws_cnt wr (r % n) (ra (p * 64 + r % n)).toNatClampNeg + 2) → n ≤ r → ws_cnt wr (r % n) w < ws_cnt wr (r % n) (ra (p * 64 + r % n)).toNatClampNeg + 2 := by
    intro z y
    omega
  by_cases cA : n ≤ r ∧ ws_cnt wr (r % n) (ra (p * 64 + r % n)).toNatClampNeg + 2 ≤ ws_cnt wr (r % n) w
  · obtain ⟨x, hx, ex, cx⟩ := hH (r % n) hml
    have x1 : s0 ≤ x := by
      have u1 := a3 (r % n) (by omega)
      by_cases c : x ≤ (ra (p * 64 + r % n)).toNatClampNeg
      · have := ws_cnt_mon wr (r % n) c
        omega
      · omega
    refine ⟨w, wr, upd ph p (nI t'), upd st p (st p + 1), ((nI n), (nI L), (nI w), (nI ub), vV, vC, hV, H, (upd ph p (nI t')), (upd st p (st p + 1)), it, sw, (upd ew p (nI w)), (upd lb p (nI (r % n))), (upd vw p (hV (r % n))), co, nx, lc, (ws_MG n w r (p * 6) wr (fun s => ra (p * 64 + s)) mc), (ws_FG n w r (p * 6) wr fc), (upd rv (p * 6 + r % n) (nI w))),
      ?_, ⟨Or.inl ⟨rfl, rfl⟩, fun q hq => pk_un hq, rfl⟩, fun post h => ?_⟩
    · refine wq_S_i (wn := wn) (rd := upd rd p (nI (r + 1))) (ra := upd ra (p * 64 + r) (nI w)) ⟨h2, h6, hL, hub, by omega, hV', hH, hLg, ?_, ?_⟩
      · intro q hq
        by_cases e : q = p
        · subst e
          rw [pk_us, pk_us, pk_us, pk_us, ex, ws_loc ra (q * 64) r (nI w), ws_MG_loc, ws_FG_loc, ws_loc rv (q * 6) (r % n) (nI w)]
          exact ws_P_end h2 hw hr (by omega) h1 hT hx _ _ _
        · rw [pk_un e, pk_un e, pk_un e, pk_un e]
          exact wq_otherP h2 h6 hw hr e (hP q hq)
      · intro q hq
        by_cases e : q = p
        · subst e
          rw [pk_us, pk_us, pk_us, pk_us, pk_us, ex, ws_loc ra (q * 64) r (nI w), k1]
          exact wq_E_end hr hb hw ht k2 k3 a1 a2 a3 a4 x1 hx
        · rw [pk_un e, pk_un e, pk_un e, pk_un e, pk_un e]
          exact wq_otherE hr e (hE q hq)
    · exact wx_stepR hp6 et3 hG.2.1 (wx_read hp6 h2 h6 hw hr hV' h1 hT hG et ht (fun _ _ => h) (fun z => by omega) (fun _ z => by omega) (fun z => by omega))
  · by_cases cB : r % n + 1 < n
    · refine ⟨w, wr, ph, upd st p (st p + 1), ((nI n), (nI L), (nI w), (nI ub), vV, vC, hV, H, ph, (upd st p (st p + 1)), it, sw, ew, lb, vw, co, (upd nx p (nI (r % n + 1))), lc, (ws_MG n w r (p * 6) wr (fun s => ra (p * 64 + s)) mc), (ws_FG n w r (p * 6) wr fc), (upd rv (p * 6 + r % n) (nI w))),
        ?_, ⟨Or.inl ⟨rfl, rfl⟩, fun q hq => rfl, rfl⟩, fun post h => ?_⟩
      · refine wq_S_i (wn := wn) (rd := upd rd p (nI (r + 1))) (ra := upd ra (p * 64 + r) (nI w)) ⟨h2, h6, hL, hub, by omega, hV', hH, hLg, ?_, ?_⟩
        · intro q hq
          by_cases e : q = p
          · subst e
            rw [pk_us, pk_us, et, ws_loc ra (q * 64) r (nI w), ws_MG_loc, ws_FG_loc, ws_loc rv (q * 6) (r % n) (nI w)]
            exact ws_P_go h2 hw hr ht12 h1 hT h3 (ws_Go_B h2 h6 hw h1 hG (hne (by omega)) cB)
          · rw [pk_un e, pk_un e]
            exact wq_otherP h2 h6 hw hr e (hP q hq)
        · intro q hq
          by_cases e : q = p
          · subst e
            rw [pk_us, pk_us, et, ws_loc ra (q * 64) r (nI w), k1, k4]
            exact wq_E_go hr hb hw ht12 k2 k3 a1 a2 a3 a4
          · rw [pk_un e, pk_un e]
            exact wq_otherE hr e (hE q hq)
      · exact wx_stepR hp6 et3 hG.2.1 (wx_read hp6 h2 h6 hw hr hV' h1 hT hG et ht (fun z y => absurd ⟨z, y⟩ cA) (fun _ _ => h) (fun _ _ z => by omega) (fun _ z => by omega))
    · have cN : r % n + 1 = n := by omega
      by_cases cD : r < n ∨ ∃ i, i < n ∧ ws_mv wr (upd (fun s => ra (p * 64 + s)) r (nI w)) n i (r + 1) = r / n + 1
      · refine ⟨w, wr, ph, upd st p (st p + 1), ((nI n), (nI L), (nI w), (nI ub), vV, vC, hV, H, ph, (upd st p (st p + 1)), it, sw, ew, lb, vw, (upd co p (nI (r / n + 2))), (upd nx p 0), (upd lc p (nI w)), (ws_MG n w r (p * 6) wr (fun s => ra (p * 64 + s)) mc), (ws_FG n w r (p * 6) wr fc), (upd rv (p * 6 + r % n) (nI w))),
          ?_, ⟨Or.inl ⟨rfl, rfl⟩, fun q hq => rfl, rfl⟩, fun post h => ?_⟩
        · refine wq_S_i (wn := wn) (rd := upd rd p (nI (r + 1))) (ra := upd ra (p * 64 + r) (nI w)) ⟨h2, h6, hL, hub, by omega, hV', hH, hLg, ?_, ?_⟩
          · intro q hq
            by_cases e : q = p
            · subst e
              rw [pk_us, pk_us, pk_us, pk_us, et, ws_loc ra (q * 64) r (nI w), ws_MG_loc, ws_FG_loc, ws_loc rv (q * 6) (r % n) (nI w)]
              exact ws_P_go h2 hw hr ht12 h1 hT h3 (ws_Go_D h2 h6 hw h1 hG (hne (by omega)) cN (fun z => cD.resolve_left (by omega)))
            · rw [pk_un e, pk_un e, pk_un e, pk_un e]
              exact wq_otherP h2 h6 hw hr e (hP q hq)
          · intro q hq
            by_cases e : q = p
            · subst e
              rw [pk_us, pk_us, et, ws_loc ra (q * 64) r (nI w), k1, k4]
              exact wq_E_go hr hb hw ht12 k2 k3 a1 a2 a3 a4
            · rw [pk_un e, pk_un e]
              exact wq_otherE hr e (hE q hq)
        · exact wx_stepR hp6 et3 hG.2.1 (wx_read hp6 h2 h6 hw hr hV' h1 hT hG et ht (fun z y => absurd ⟨z, y⟩ cA) (fun _ z => by omega) (fun z _ _ y => absurd cD (fun c => c.elim (fun a => by omega) (fun ⟨i, hi, b⟩ => y i hi b))) (fun _ _ _ => h))
      · have hnr : n ≤ r := by
          by_cases c : n ≤ r
          · exact c
          · exact absurd (Or.inl (by omega)) cD
        obtain ⟨x, hx, ex⟩ := h1 (r - n) (by omega)
        have el : lc p = nI x := by
          rw [hG.2.2.1 hnr, (ws_dm2 h2 h6 r cN).2.2.2 hnr]
          exact ex
        have x1 : s0 ≤ x := by
          have u1 := a3 (r - n) (by omega)
          dsimp only at u1 ex
          rw [ex, nI_clamp (by omega)] at u1
          exact u1
        refine ⟨w, wr, upd ph p (nI t'), upd st p (st p + 1), ((nI n), (nI L), (nI w), (nI ub), vV, vC, hV, H, (upd ph p (nI t')), (upd st p (st p + 1)), it, sw, (upd ew p (nI w)), (upd lb p (-7)), (upd vw p (lc p)), co, nx, lc, (ws_MG n w r (p * 6) wr (fun s => ra (p * 64 + s)) mc), (ws_FG n w r (p * 6) wr fc), (upd rv (p * 6 + r % n) (nI w))),
          ?_, ⟨Or.inl ⟨rfl, rfl⟩, fun q hq => pk_un hq, rfl⟩, fun post h => ?_⟩
        · refine wq_S_i (wn := wn) (rd := upd rd p (nI (r + 1))) (ra := upd ra (p * 64 + r) (nI w)) ⟨h2, h6, hL, hub, by omega, hV', hH, hLg, ?_, ?_⟩
          · intro q hq
            by_cases e : q = p
            · subst e
              rw [pk_us, pk_us, pk_us, pk_us, el, ws_loc ra (q * 64) r (nI w), ws_MG_loc, ws_FG_loc, ws_loc rv (q * 6) (r % n) (nI w)]
              exact ws_P_end h2 hw hr (by omega) h1 hT hx _ _ _
            · rw [pk_un e, pk_un e, pk_un e, pk_un e]
              exact wq_otherP h2 h6 hw hr e (hP q hq)
          · intro q hq
            by_cases e : q = p
            · subst e
              rw [pk_us, pk_us, pk_us, pk_us, pk_us, el, ws_loc ra (q * 64) r (nI w), k1]
              exact wq_E_end hr hb hw ht k2 k3 a1 a2 a3 a4 x1 hx
            · rw [pk_un e, pk_un e, pk_un e, pk_un e, pk_un e]
              exact wq_otherE hr e (hE q hq)
        · exact wx_stepR hp6 et3 hG.2.1 (wx_read hp6 h2 h6 hw hr hV' h1 hT hG et ht (fun z y => absurd ⟨z, y⟩ cA) (fun _ z => by omega) (fun _ _ _ _ => h) (fun _ _ z => absurd z cD))
end
theorem wq_step {n L : Nat} {m : Int32} {B : Nat → Nat} {H : Nat → Int32} {w : Nat} {wr ph st : Nat → Int32} {u : St2} {p : Nat} (h : wq_S n L m B H w wr ph st u) (hp : p < n) (h0 : ¬ ph p = 0) :
    ∃ w' wr' ph' st' u', wq_S n L m B H w' wr' ph' st' u' ∧ wq_T p w wr ph st w' wr' ph' st' ∧ (∀ post, post u' → wpX_takeStep post u (nI p)) := by
  obtain ⟨ub, vV, vC, hV, it, sw, ew, lb, vw, co, nx, lc, mc, fc, rv, wn, rd, ra, rfl, hR⟩ := h
  obtain ⟨r, t, hr, ht, er, et, _⟩ := hR.2.2.2.2.2.2.2.2.1 p hp
  have h4 : t = 0 ∨ t = 1 ∨ t = 2 ∨ t = 3 := by omega
  rcases h4 with rfl | rfl | rfl | rfl
  · exact absurd et h0
  · exact wq_stepR hR hp (t' := 0) et (Or.inl ⟨rfl, rfl⟩)
  · exact wq_stepR hR hp (t' := 3) et (Or.inr ⟨rfl, rfl⟩)
  · exact wq_stepW hR hp et
