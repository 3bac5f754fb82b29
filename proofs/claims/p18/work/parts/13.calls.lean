/-! begins, halt, and what is told, in the picture of the law -/
def wq_ub (B : Nat → Nat) (p b : Nat) : Nat → Nat := fun q => if q = p then b else B q
theorem wq_ub_s (B : Nat → Nat) (p b : Nat) : wq_ub B p b p = b := if_pos rfl
theorem wq_ub_n (B : Nat → Nat) {p b q : Nat} (h : q ≠ p) : wq_ub B p b q = B q := if_neg h
section
variable {n L w ub : Nat} {m : Int32} {B : Nat → Nat} {vV vC hV H ph st it sw ew lb vw co nx lc mc fc rv wr wn rd ra : Nat → Int32} {p : Nat}
theorem wq_begun {t ub' b : Nat} {it' : Nat → Int32} (hR : wq_R n L w ub m B vV vC hV ph st it sw ew vw co nx lc mc fc rv wr wn rd ra) (hp : p < n) (e0 : ph p = 0) (ht : (t = 1 ∧ ub' = ub ∧ b = 0) ∨ (t = 2 ∧ ub' = ub + 1 ∧ ub < L ∧ b = 1 ∧ it' p = wq_val m p (ws_cnt wr p w + 1))) (hit : ∀ q, q ≠ p → it' q = it q) :
    wq_R n L w ub' m (wq_ub B p b) vV vC hV (upd ph p (nI t)) (upd st p 0) it' (upd sw p (nI w)) (upd ew p (-6)) (upd vw p (-6)) (upd co p 1) (upd nx p 0) lc (ws_fill mc (p * 6) 6 0) fc (ws_fill rv (p * 6) 6 (-6)) wr wn (upd rd p 0) ra := by
  obtain ⟨h2, h6, hL, hub, hact, hV', hH, hLg, hP, hE⟩ := hR
  have ac := ws_act_upd ph p (nI t) n hp
  rw [e0, show ws_b 0 = 0 from by decide] at ac
  have bt : ws_b (nI t) = ub' - ub ∧ ub ≤ ub' ∧ ub' ≤ L := by
    rcases ht with ⟨rfl, rfl, _⟩ | ⟨rfl, rfl, z, _⟩
    · exact ⟨by rw [Nat.sub_self]; decide, by omega, by omega⟩
    · exact ⟨by rw [Nat.add_sub_cancel_left]; decide, by omega, by omega⟩
  refine ⟨h2, h6, hL, by omega, by omega, hV', hH, hLg, ?_, ?_⟩
  · intro q hq
    by_cases e : q = p
    · subst e
      rw [pk_us, pk_us, pk_us, pk_us, pk_us, pk_us]
      exact ws_P_new h2 (by omega) (fun j hj => ws_fill_in mc (q * 6) 6 0 j hj) (fun j hj => ws_fill_in rv (q * 6) 6 (-6) j hj) h6
    · rw [pk_un e, pk_un e, pk_un e, pk_un e, pk_un e, pk_un e]
      exact ws_P_ext (Nat.le_refl w) (by omega) h6 (fun _ _ _ => rfl) (fun _ _ => rfl) (fun j hj => ws_fill_out _ _ _ _ _ (by omega)) (fun _ _ => rfl) (fun j hj => ws_fill_out _ _ _ _ _ (by omega)) (hP q hq)
  · intro q hq
    by_cases e : q = p
    · subst e
      rw [pk_us, pk_us, pk_us, pk_us, pk_us, pk_us, wq_ub_s]
      refine ⟨0, t, 0, rfl, by omega, rfl, by omega, rfl, by omega, by omega, fun _ => rfl, fun z => by omega, fun z => ?_, Or.inr ⟨w, Nat.le_refl w, rfl, fun s hs => by omega, fun _ => rfl, fun z => by omega, fun _ => rfl⟩⟩
      rcases ht with y | ⟨_, _, _, y1, y2⟩
      · omega
      · exact ⟨y1, y2⟩
    · rw [pk_un e, pk_un e, pk_un e, pk_un e, pk_un e, pk_un e, wq_ub_n B e, hit q e]
      exact hE q hq
end
section
variable {n L w : Nat} {m : Int32} {B : Nat → Nat} {H wr ph st : Nat → Int32} {u : St2} {p : Nat}
theorem wq_scan (hS : wq_S n L m B H w wr ph st u) (hp : p < n) (eh : H p = 0) (e0 : ph p = 0) :
    ∃ ph' st' u', wq_S n L m (wq_ub B p 0) H w wr ph' st' u' ∧ (∀ post, post 0 u' → wpX_beginScan post u (nI p)) := by
  obtain ⟨ub, vV, vC, hV, it, sw, ew, lb, vw, co, nx, lc, mc, fc, rv, wn, rd, ra, rfl, hR⟩ := hS
  have h6 := hR.2.1
  have hp6 : p < 6 := by omega
  refine ⟨_, _, _, wq_S_i (H := H) (lb := upd lb p (-6)) (wq_begun (t := 1) (it' := it) hR hp e0 (Or.inl ⟨rfl, rfl, rfl⟩) (fun _ _ => rfl)), fun post h => ?_⟩
  unfold wpX_beginScan
  refine wx_ref_0 hp h6 eh e0 (br_t rfl ?_)
  exact wx_begin hp6 h
theorem wq_update (hS : wq_S n L m B H w wr ph st u) (hp : p < n) (eh : H p = 0) (e0 : ph p = 0) :
    (∃ ph' st' u', wq_S n L m (wq_ub B p 1) H w wr ph' st' u' ∧ (∀ post, post 0 u' → wpX_beginUpdate post u (nI p) (wq_val m p (ws_cnt wr p w + 1)))) ∨ (∀ (v : Int32) (post : Int32 → St2 → Prop), post (-4) u → wpX_beginUpdate post u (nI p) v) := by
  obtain ⟨ub, vV, vC, hV, it, sw, ew, lb, vw, co, nx, lc, mc, fc, rv, wn, rd, ra, rfl, hR⟩ := hS
  have h6 := hR.2.1
  have hL := hR.2.2.1
  have hub := hR.2.2.2.1
  have hp6 : p < 6 := by omega
  by_cases hf : ub < L
  · refine Or.inl ⟨_, _, _, wq_S_i (H := H) (lb := upd lb p (-6)) (wq_begun (t := 2) (it' := upd it p (wq_val m p (ws_cnt wr p w + 1))) hR hp e0 (Or.inr ⟨rfl, rfl, hf, rfl, pk_us⟩) (fun q hq => pk_un hq)), fun post h => ?_⟩
    unfold wpX_beginUpdate
    refine wx_ref_0 hp h6 eh e0 (br_t rfl (br_t (nI_lt hf (by omega)) (nm_r (nI_1 ub) ?_)))
    exact wx_begin hp6 ⟨ws_in hp6, nm_r (ws_u (by omega) it _) h⟩
  · refine Or.inr (fun v post h => ?_)
    unfold wpX_beginUpdate
    exact wx_ref_0 hp h6 eh e0 (br_t rfl (br_f (nI_nlt (by omega) (by omega)) h))
theorem wq_halt (hS : wq_S n L m B H w wr ph st u) (hp : p < n) : ∃ r H' u', wq_S n L m B H' w wr ph st u' ∧ (∀ post, post r u' → wpX_halt post u (nI p)) := by
  have h0 := hS
  obtain ⟨ub, vV, vC, hV, it, sw, ew, lb, vw, co, nx, lc, mc, fc, rv, wn, rd, ra, rfl, hR⟩ := hS
  have h6 := hR.2.1
  have hp6 : p < 6 := by omega
  by_cases eh : H p = 0
  · refine ⟨0, upd H p 1, _, wq_S_i (lb := lb) hR, fun post h => ?_⟩
    unfold wpX_halt
    exact wx_in hp h6 (br_f (by decide) ⟨ws_in hp6, br_t (ws_t (f := H) (by omega) eh) ⟨ws_in hp6, nm_r (ws_u (by omega) H _) h⟩⟩)
  · refine ⟨-2, H, _, h0, fun post h => ?_⟩
    unfold wpX_halt
    exact wx_in hp h6 (br_f (by decide) ⟨ws_in hp6, br_f (ws_nt (f := H) (by omega) eh) h⟩)
theorem wq_phase (hS : wq_S n L m B H w wr ph st u) (hp : p < n) {post : Int32 → Prop} (h1 : H p = 0 → post (ph p)) (h2 : ¬ H p = 0 → post (ph p + 4)) : wpX_phase post u (nI p) := by
  obtain ⟨ub, vV, vC, hV, it, sw, ew, lb, vw, co, nx, lc, mc, fc, rv, wn, rd, ra, rfl, hR⟩ := hS
  have h6 := hR.2.1
  have hp6 : p < 6 := by omega
  unfold wpX_phase
  refine wx_in hp h6 (br_f (by decide) ⟨ws_in hp6, ?_⟩)
  by_cases eh : H p = 0
  · refine br_t (ws_t (f := H) (by omega) eh) ⟨ws_in hp6, ?_⟩
    rw [ws_r (by omega) ph]
    exact h1 eh
  · refine br_f (ws_nt (f := H) (by omega) eh) ⟨ws_in hp6, ?_⟩
    rw [ws_r (by omega) ph]
    exact h2 eh
theorem wq_ph4 (hS : wq_S n L m B H w wr ph st u) (hp : p < n) : ∃ t, t < 4 ∧ ph p = nI t := by
  obtain ⟨ub, vV, vC, hV, it, sw, ew, lb, vw, co, nx, lc, mc, fc, rv, wn, rd, ra, rfl, hR⟩ := hS
  obtain ⟨r, t, hr, ht, er, et, _⟩ := hR.2.2.2.2.2.2.2.2.1 p hp
  exact ⟨t, ht, et⟩
theorem wq_steps (hS : wq_S n L m B H w wr ph st u) (hp : p < n) {post : Int32 → Prop} (h : post (st p)) : wpX_steps post u (nI p) := by
  obtain ⟨ub, vV, vC, hV, it, sw, ew, lb, vw, co, nx, lc, mc, fc, rv, wn, rd, ra, rfl, hR⟩ := hS
  have h6 := hR.2.1
  unfold wpX_steps
  refine wx_in hp h6 (br_f (by decide) ⟨ws_in (by omega), ?_⟩)
  rw [ws_r (by omega) st]
  exact h
end
section
variable {n L w ub : Nat} {m : Int32} {B : Nat → Nat} {vV vC hV H ph st it sw ew lb vw co nx lc mc fc rv wr wn rd ra : Nat → Int32} {p : Nat}
theorem wx_told2 {post : Int32 → Prop} {j : Nat} (hp : p < n) (hj : j < n) (h6 : n ≤ 6) (h : post (nI w)) : wpX_versionTold post ((nI n), (nI L), (nI w), (nI ub), vV, vC, hV, H, ph, st, it, sw, ew, lb, vw, co, nx, lc, mc, fc, rv) 2 (nI p) (nI j) := by
  unfold wpX_versionTold
  exact wx_in hp h6 (br_f (by decide) (wx_in hj h6 (br_f (by decide) (br_f (by decide) (br_f (by decide) (br_f (by decide) (br_f (by decide) (br_t rfl h))))))))
theorem wx_told0 {post : Int32 → Prop} {j : Nat} (hp : p < n) (hj : j < n) (h6 : n ≤ 6) (h : post (vw p)) : wpX_versionTold post ((nI n), (nI L), (nI w), (nI ub), vV, vC, hV, H, ph, st, it, sw, ew, lb, vw, co, nx, lc, mc, fc, rv) 0 (nI p) (nI j) := by
  unfold wpX_versionTold
  refine wx_in hp h6 (br_f (by decide) (wx_in hj h6 (br_f (by decide) (br_f (by decide) (br_f (by decide) (br_t rfl ⟨ws_in (by omega), ?_⟩))))))
  rw [ws_r (by omega) vw]
  exact h
theorem wq_cnt2 (hR : wq_R n L w ub m B vV vC hV ph st it sw ew vw co nx lc mc fc rv wr wn rd ra) {post : Int32 → Prop} {j : Nat} (hj : j < n) (h : post (nI (ws_cnt wr j w))) : wpX_count post ((nI n), (nI L), (nI w), (nI ub), vV, vC, hV, H, ph, st, it, sw, ew, lb, vw, co, nx, lc, mc, fc, rv) 2 0 (nI j) := by
  obtain ⟨h2, h6, hL, hub, hact, hV', hH, hLg, hP, hE⟩ := hR
  unfold wpX_count
  refine wx_told2 (p := 0) (by omega) hj h6 (br_t (nI_pos' (by omega)) (wx_cell ⟨ws_in (by omega), ?_⟩))
  rw [ws_r (by omega) vC, (hV' w j (Nat.le_refl w) (by omega)).1]
  exact h
theorem wq_val2 (hR : wq_R n L w ub m B vV vC hV ph st it sw ew vw co nx lc mc fc rv wr wn rd ra) {post : Int32 → Prop} {j : Nat} (hj : j < n) (h : post (wq_val m j (ws_cnt wr j w))) : wpX_value post ((nI n), (nI L), (nI w), (nI ub), vV, vC, hV, H, ph, st, it, sw, ew, lb, vw, co, nx, lc, mc, fc, rv) 2 0 (nI j) := by
  obtain ⟨h2, h6, hL, hub, hact, hV', hH, hLg, hP, hE⟩ := hR
  unfold wpX_value
  refine wx_told2 (p := 0) (by omega) hj h6 (br_t (nI_pos' (by omega)) (wx_cell ⟨ws_in (by omega), ?_⟩))
  rw [ws_r (by omega) vV, (hV' w j (Nat.le_refl w) (by omega)).2, wq_last h6 hLg j (by omega) w (Nat.le_refl w)]
  exact h
theorem wq_ver2 (hR : wq_R n L w ub m B vV vC hV ph st it sw ew vw co nx lc mc fc rv wr wn rd ra) {post : Int32 → Prop} (h : post (nI w)) : wpX_version post ((nI n), (nI L), (nI w), (nI ub), vV, vC, hV, H, ph, st, it, sw, ew, lb, vw, co, nx, lc, mc, fc, rv) 2 0 := by
  obtain ⟨h2, h6, _⟩ := hR
  unfold wpX_version wX_version_16
  exact br_f (by decide) (wx_told2 (p := 0) (j := 0) (by omega) (by omega) h6 h)
theorem wq_ver0 (hR : wq_R n L w ub m B vV vC hV ph st it sw ew vw co nx lc mc fc rv wr wn rd ra) {post : Int32 → Prop} (hp : p < n) (h : post (vw p)) : wpX_version post ((nI n), (nI L), (nI w), (nI ub), vV, vC, hV, H, ph, st, it, sw, ew, lb, vw, co, nx, lc, mc, fc, rv) 0 (nI p) := by
  obtain ⟨h2, h6, _⟩ := hR
  unfold wpX_version wX_version_16
  exact br_f (by decide) (wx_told0 (j := 0) hp (by omega) h6 h)
theorem wq_cnt0 (hR : wq_R n L w ub m B vV vC hV ph st it sw ew vw co nx lc mc fc rv wr wn rd ra) {post : Int32 → Prop} {j v : Nat} (hp : p < n) (hj : j < n) (ev : vw p = nI v) (hv : v ≤ w) (h : post (nI (ws_cnt wr j v))) : wpX_count post ((nI n), (nI L), (nI w), (nI ub), vV, vC, hV, H, ph, st, it, sw, ew, lb, vw, co, nx, lc, mc, fc, rv) 0 (nI p) (nI j) := by
  obtain ⟨h2, h6, hL, hub, hact, hV', hH, hLg, hP, hE⟩ := hR
  unfold wpX_count
  refine wx_told0 hp hj h6 ?_
  rw [ev]
  refine br_t (nI_pos' (by omega)) (wx_cell ⟨ws_in (by omega), ?_⟩)
  rw [ws_r (by omega) vC, (hV' v j hv (by omega)).1]
  exact h
theorem wq_val0 (hR : wq_R n L w ub m B vV vC hV ph st it sw ew vw co nx lc mc fc rv wr wn rd ra) {post : Int32 → Prop} {j v : Nat} (hp : p < n) (hj : j < n) (ev : vw p = nI v) (hv : v ≤ w) (h : post (wq_val m j (ws_cnt wr j v))) : wpX_value post ((nI n), (nI L), (nI w), (nI ub), vV, vC, hV, H, ph, st, it, sw, ew, lb, vw, co, nx, lc, mc, fc, rv) 0 (nI p) (nI j) := by
  obtain ⟨h2, h6, hL, hub, hact, hV', hH, hLg, hP, hE⟩ := hR
  unfold wpX_value
  refine wx_told0 hp hj h6 ?_
  rw [ev]
  refine br_t (nI_pos' (by omega)) (wx_cell ⟨ws_in (by omega), ?_⟩)
  rw [ws_r (by omega) vV, (hV' v j hv (by omega)).2, wq_last h6 hLg j (by omega) v hv]
  exact h
theorem wq_start (h6 : n ≤ 6) {post : Int32 → Prop} (hp : p < n) (h : post (sw p)) : wpX_startedAt post ((nI n), (nI L), (nI w), (nI ub), vV, vC, hV, H, ph, st, it, sw, ew, lb, vw, co, nx, lc, mc, fc, rv) (nI p) := by
  unfold wpX_startedAt
  refine wx_in hp h6 (br_f (by decide) ⟨ws_in (by omega), ?_⟩)
  rw [ws_r (by omega) sw]
  exact h
theorem wq_ended (h6 : n ≤ 6) {post : Int32 → Prop} (hp : p < n) (h : post (ew p)) : wpX_endedAt post ((nI n), (nI L), (nI w), (nI ub), vV, vC, hV, H, ph, st, it, sw, ew, lb, vw, co, nx, lc, mc, fc, rv) (nI p) := by
  unfold wpX_endedAt
  refine wx_in hp h6 (br_f (by decide) ⟨ws_in (by omega), ?_⟩)
  rw [ws_r (by omega) ew]
  exact h
end
