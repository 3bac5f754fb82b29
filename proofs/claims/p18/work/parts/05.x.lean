/-! the component's own methods, each with a general post -/
theorem ws_ix (p j : Nat) : nI p * 6 + nI j = nI (p * 6 + j) := by
  rw [show (6 : Int32) = nI 6 from rfl, pk_mul, nI_add]
theorem ws_u {p : Nat} (hp : p < 774) (f : Nat → Int32) (x : Int32) : upd f (nI p).toNatClampNeg x = upd f p x := by rw [nI_clamp (by omega)]
theorem ws_r {p : Nat} (hp : p < 774) (f : Nat → Int32) : f (nI p).toNatClampNeg = f p := by rw [nI_clamp (by omega)]
theorem ws_in {p k : Nat} (hp : p < k) (hk : k < 2 ^ 31 := by decide) : vp_in (nI p) k := vp_in_nI hp hk
theorem wx_pair {post : Int32 → Prop} {p j : Nat} (h : post (nI (p * 6 + j))) : wpX_pair post () (nI p) (nI j) := by
  unfold wpX_pair
  rw [ws_ix]
  exact h
theorem wx_cell {post : Int32 → Prop} {p j : Nat} (h : post (nI (p * 6 + j))) : wpX_cell post () (nI p) (nI j) := by
  unfold wpX_cell
  rw [ws_ix]
  exact h
section
variable {n L w ub : Nat} {vV vC hV H ph st it sw ew lb vw co nx lc mc fc rv : Nat → Int32}
theorem wx_in {post : Int32 → Prop} {p : Nat} (hp : p < n) (hn : n ≤ 6) (h : post 1) : wpX_inRange post ((nI n), (nI L), (nI w), (nI ub), vV, vC, hV, H, ph, st, it, sw, ew, lb, vw, co, nx, lc, mc, fc, rv) (nI p) := br_f (nI_pos (by omega)) (br_f (nI_ge hp (by omega)) h)
theorem wx_out {post : Int32 → Prop} {x : Int32} (hx : x < 0 ∨ nI n ≤ x) (h : post 0) : wpX_inRange post ((nI n), (nI L), (nI w), (nI ub), vV, vC, hV, H, ph, st, it, sw, ew, lb, vw, co, nx, lc, mc, fc, rv) x := by
  by_cases z : x < 0
  · exact br_t z h
  · exact br_f z (br_t (hx.resolve_left z) h)
theorem wx_forget_lp {post : St2 → Prop} {p : Nat} (hp : p < 6) : ∀ d k : Nat, k + d = 6 → post ((nI n), (nI L), (nI w), (nI ub), vV, vC, hV, H, ph, st, it, sw, ew, lb, vw, co, nx, lc, (ws_fill mc (p * 6) 6 0), fc, (ws_fill rv (p * 6) 6 (-6))) →
    wX_forgetOperation_47 post (nI p) (nI n) (nI L) (nI w) (nI ub) (d + 1) (nI k) vV vC hV H ph st it sw ew lb vw co nx lc (ws_fill mc (p * 6) k 0) fc (ws_fill rv (p * 6) k (-6)) := by
  intro d
  induction d with
  | zero =>
    intro k hk h
    have e : k = 6 := by omega
    subst e
    exact br_t (nI_le (a := 6) (b := 6) (by omega) (by omega)) h
  | succ d ih =>
    intro k hk h
    refine br_f (nI_ge (a := k) (b := 6) (by omega) (by omega)) ?_
    refine wx_pair ⟨ws_in (by omega), nm_r (e' := ws_fill mc (p * 6) (k + 1) 0) (by rw [ws_u (by omega)]; exact ws_fill_s mc (p * 6) k 0) ?_⟩
    refine wx_pair ⟨ws_in (by omega), nm_r (e' := ws_fill rv (p * 6) (k + 1) (-6)) (by rw [ws_u (by omega)]; exact ws_fill_s rv (p * 6) k (-6)) ?_⟩
    refine nm_r (nI_1 k) ?_
    exact ih (k + 1) (by omega) h
theorem wx_forget {post : St2 → Prop} {p : Nat} (hp : p < 6) (h : post ((nI n), (nI L), (nI w), (nI ub), vV, vC, hV, H, ph, (upd st p 0), it, sw, (upd ew p (-6)), (upd lb p (-6)), (upd vw p (-6)), (upd co p 1), (upd nx p 0), lc, (ws_fill mc (p * 6) 6 0), fc, (ws_fill rv (p * 6) 6 (-6)))) : wpX_forgetOperation post ((nI n), (nI L), (nI w), (nI ub), vV, vC, hV, H, ph, st, it, sw, ew, lb, vw, co, nx, lc, mc, fc, rv) (nI p) := by
  have i : vp_in (nI p) 6 := ws_in hp
  refine ⟨i, nm_r (ws_u (by omega) st 0) ⟨i, nm_r (ws_u (by omega) ew (-6)) ⟨i, nm_r (ws_u (by omega) lb (-6)) ⟨i, nm_r (ws_u (by omega) vw (-6)) ⟨i, nm_r (ws_u (by omega) co 1) ⟨i, nm_r (ws_u (by omega) nx 0) ⟨7, ?_⟩⟩⟩⟩⟩⟩⟩
  have g := wx_forget_lp (post := post) hp 6 0 rfl h
  rw [ws_fill_0, ws_fill_0] at g
  exact g
theorem wx_begin {post : St2 → Prop} {p : Nat} {t : Int32} (hp : p < 6) (h : post ((nI n), (nI L), (nI w), (nI ub), vV, vC, hV, H, (upd ph p t), (upd st p 0), it, (upd sw p (nI w)), (upd ew p (-6)), (upd lb p (-6)), (upd vw p (-6)), (upd co p 1), (upd nx p 0), lc, (ws_fill mc (p * 6) 6 0), fc, (ws_fill rv (p * 6) 6 (-6)))) : wpX_begin post ((nI n), (nI L), (nI w), (nI ub), vV, vC, hV, H, ph, st, it, sw, ew, lb, vw, co, nx, lc, mc, fc, rv) (nI p) t := by
  have i : vp_in (nI p) 6 := ws_in hp
  unfold wpX_begin
  refine wx_forget hp ?_
  exact ⟨i, nm_r (ws_u (by omega) ph t) ⟨i, nm_r (ws_u (by omega) sw (nI w)) h⟩⟩
theorem wx_write_lp {post : St2 → Prop} {p : Nat} (hp : p < 6) (hw : w < 128) : ∀ d k : Nat, k + d = 6 →
    post ((nI n), (nI L), (nI (w + 1)), (nI ub), (upd (ws_row vV (w * 6) 6) (w * 6 + 6 + p) (it p)), (upd (ws_row vC (w * 6) 6) (w * 6 + 6 + p) (ws_row vC (w * 6) 6 (w * 6 + 6 + p) + 1)), (upd hV p (vw p)), H, (upd ph p 0), st, it, sw, ew, lb, vw, co, nx, lc, mc, fc, rv) →
    wX_write_17 post (nI p) (nI (w * 6)) (nI (w * 6 + 6)) (nI n) (nI L) (nI w) (nI ub) (d + 1) (nI k) (ws_row vV (w * 6) k) (ws_row vC (w * 6) k) hV H ph st it sw ew lb vw co nx lc mc fc rv := by
  intro d
  have i : vp_in (nI p) 6 := ws_in hp
  induction d with
  | zero =>
    intro k hk h
    have e : k = 6 := by omega
    subst e
    have ii : vp_in (nI (w * 6 + 6) + nI p) 774 := by rw [nI_add]; exact ws_in (by omega)
    refine br_t (nI_le (a := 6) (b := 6) (by omega) (by omega)) ⟨i, ⟨ii, ?_⟩⟩
    refine nm_r (e' := upd (ws_row vV (w * 6) 6) (w * 6 + 6 + p) (it p)) (by rw [nI_add, nI_clamp (by omega), nI_clamp (by omega)]) ⟨ii, ⟨ii, ?_⟩⟩
    refine nm_r (e' := upd (ws_row vC (w * 6) 6) (w * 6 + 6 + p) (ws_row vC (w * 6) 6 (w * 6 + 6 + p) + 1)) (by rw [nI_add, nI_clamp (by omega)]) ⟨i, ⟨i, ?_⟩⟩
    refine nm_r (e' := upd hV p (vw p)) (by rw [nI_clamp (by omega)]) ?_
    refine nm_r (nI_1 w) ⟨i, ?_⟩
    exact nm_r (ws_u (by omega) ph 0) h
  | succ d ih =>
    intro k hk h
    have i1 : vp_in (nI (w * 6) + nI k) 774 := by rw [nI_add]; exact ws_in (by omega)
    have i2 : vp_in (nI (w * 6 + 6) + nI k) 774 := by rw [nI_add]; exact ws_in (by omega)
    refine br_f (nI_ge (a := k) (b := 6) (by omega) (by omega)) ⟨i1, ⟨i2, ?_⟩⟩
    refine nm_r (e' := ws_row vV (w * 6) (k + 1)) (by rw [nI_add, nI_add, nI_clamp (by omega), nI_clamp (by omega)]; exact ws_row_s vV (w * 6) k (by omega)) ⟨i1, ⟨i2, ?_⟩⟩
    refine nm_r (e' := ws_row vC (w * 6) (k + 1)) (by rw [nI_add, nI_add, nI_clamp (by omega), nI_clamp (by omega)]; exact ws_row_s vC (w * 6) k (by omega)) ?_
    refine nm_r (nI_1 k) ?_
    exact ih (k + 1) (by omega) h
theorem wx_write {post : St2 → Prop} {p : Nat} (hp : p < 6) (hw : w < 128)
    (h : post ((nI n), (nI L), (nI (w + 1)), (nI ub), (upd (ws_row vV (w * 6) 6) (w * 6 + 6 + p) (it p)), (upd (ws_row vC (w * 6) 6) (w * 6 + 6 + p) (ws_row vC (w * 6) 6 (w * 6 + 6 + p) + 1)), (upd hV p (vw p)), H, (upd ph p 0), st, it, sw, ew, lb, vw, co, nx, lc, mc, fc, rv)) : wpX_write post ((nI n), (nI L), (nI w), (nI ub), vV, vC, hV, H, ph, st, it, sw, ew, lb, vw, co, nx, lc, mc, fc, rv) (nI p) := by
  unfold wpX_write
  refine wx_cell (p := w) (j := 0) ?_
  refine nm_r (e' := nI (w * 6 + 6)) (nI_add (w * 6) 6) ⟨7, ?_⟩
  have g := wx_write_lp (post := post) hp hw 6 0 rfl h
  rw [ws_row_0, ws_row_0] at g
  exact g
theorem wx_noteRead {post : St2 → Prop} {p j a c : Nat} (hp : p < 6) (hj : j < 6) (hw : w ≤ 128) (ha : a ≤ 128) (hc : co p = nI c) (hc2 : c < 2 ^ 31)
    (hrv : c ≠ 1 → rv (p * 6 + j) = nI a)
    (h1 : c = 1 → post ((nI n), (nI L), (nI w), (nI ub), vV, vC, hV, H, ph, st, it, sw, ew, lb, vw, co, nx, lc, mc, (upd fc (p * 6 + j) (vC (w * 6 + j))), (upd rv (p * 6 + j) (nI w))))
    (h2 : c ≠ 1 → vC (w * 6 + j) ≤ vC (a * 6 + j) → post ((nI n), (nI L), (nI w), (nI ub), vV, vC, hV, H, ph, st, it, sw, ew, lb, vw, co, nx, lc, mc, fc, (upd rv (p * 6 + j) (nI w))))
    (h3 : c ≠ 1 → ¬ vC (w * 6 + j) ≤ vC (a * 6 + j) → post ((nI n), (nI L), (nI w), (nI ub), vV, vC, hV, H, ph, st, it, sw, ew, lb, vw, co, nx, lc, (upd mc (p * 6 + j) (nI c)), fc, (upd rv (p * 6 + j) (nI w)))) : wpX_noteRead post ((nI n), (nI L), (nI w), (nI ub), vV, vC, hV, H, ph, st, it, sw, ew, lb, vw, co, nx, lc, mc, fc, rv) (nI p) (nI j) := by
  have i36 : vp_in (nI (p * 6 + j)) 36 := ws_in (by omega)
  have ec : co (nI p).toNatClampNeg = 1 ↔ c = 1 := by
    rw [ws_r (by omega) co, hc]
    exact nI_eq (b := 1) hc2 (by decide)
  unfold wpX_noteRead
  refine wx_pair ?_
  refine wx_cell ⟨ws_in (by omega), nm_r (ws_r (by omega) vC) ⟨ws_in hp, ?_⟩⟩
  by_cases z : c = 1
  · exact br_t (ec.mpr z) ⟨i36, nm_r (ws_u (by omega) fc _) ⟨i36, nm_r (ws_u (by omega) rv _) (h1 z)⟩⟩
  · refine br_f (fun y => z (ec.mp y)) ⟨i36, ?_⟩
    rw [ws_r (by omega) rv, hrv z]
    refine wx_cell ⟨ws_in (by omega), ?_⟩
    rw [ws_r (by omega) vC]
    by_cases y : vC (w * 6 + j) ≤ vC (a * 6 + j)
    · exact br_t y ⟨i36, nm_r (ws_u (by omega) rv _) (h2 z y)⟩
    · exact br_f y ⟨ws_in hp, ⟨i36, nm_r (e' := upd mc (p * 6 + j) (nI c)) (by rw [ws_u (by omega), ws_r (by omega) co, hc]) ⟨i36, nm_r (ws_u (by omega) rv _) (h3 z y)⟩⟩⟩
theorem wx_movedTwice {post : Int32 → Prop} {p j : Nat} (hp : p < 6) (hj : j < 6) (hw : w ≤ 128) (h0 : vC (w * 6 + j) - fc (p * 6 + j) < 2 → post 0) (h1 : ¬ vC (w * 6 + j) - fc (p * 6 + j) < 2 → post 1) : wpX_movedTwice post ((nI n), (nI L), (nI w), (nI ub), vV, vC, hV, H, ph, st, it, sw, ew, lb, vw, co, nx, lc, mc, fc, rv) (nI p) (nI j) := by
  unfold wpX_movedTwice
  refine wx_cell ⟨ws_in (by omega), nm_r (ws_r (by omega) vC) ?_⟩
  refine wx_pair ⟨ws_in (by omega), ?_⟩
  rw [ws_r (by omega) fc]
  exact ⟨h0, h1⟩
theorem wx_endReading {post : St2 → Prop} {p : Nat} {x y : Int32} (hp : p < 6)
    (h1 : ph p = 1 → post ((nI n), (nI L), (nI w), (nI ub), vV, vC, hV, H, (upd ph p 0), st, it, sw, (upd ew p (nI w)), (upd lb p y), (upd vw p x), co, nx, lc, mc, fc, rv))
    (h2 : ¬ ph p = 1 → post ((nI n), (nI L), (nI w), (nI ub), vV, vC, hV, H, (upd ph p 3), st, it, sw, (upd ew p (nI w)), (upd lb p y), (upd vw p x), co, nx, lc, mc, fc, rv)) : wpX_endReading post ((nI n), (nI L), (nI w), (nI ub), vV, vC, hV, H, ph, st, it, sw, ew, lb, vw, co, nx, lc, mc, fc, rv) (nI p) x y := by
  have i : vp_in (nI p) 6 := ws_in hp
  refine ⟨i, nm_r (ws_u (by omega) vw x) ⟨i, nm_r (ws_u (by omega) lb y) ⟨i, nm_r (ws_u (by omega) ew (nI w)) ⟨i, ?_⟩⟩⟩⟩
  rw [ws_r (by omega) ph]
  exact ⟨fun z => ⟨i, nm_r (ws_u (by omega) ph 0) (h1 z)⟩, fun z => ⟨i, nm_r (ws_u (by omega) ph 3) (h2 z)⟩⟩
theorem wx_clean_lp {post : Int32 → Prop} {p c : Nat} (hp : p < 6) (hn : n ≤ 6) (hc : co p = nI c) : ∀ d k : Nat, k + d = n →
    ((∃ i, k ≤ i ∧ i < n ∧ mc (p * 6 + i) = nI c) → post 0) → ((∀ i, k ≤ i → i < n → ¬ mc (p * 6 + i) = nI c) → post 1) → wX_collectWasClean_14 post (nI p) (nI n) (nI L) (nI w) (nI ub) vV vC hV H ph st it sw ew lb vw co nx lc mc fc rv (d + 1) (nI k) := by
  intro d
  induction d with
  | zero =>
    intro k hk h0 h1
    exact br_t (nI_le (by omega) (by omega)) (h1 (fun i a b => by omega))
  | succ d ih =>
    intro k hk h0 h1
    refine br_f (nI_ge (by omega) (by omega)) ?_
    refine wx_pair ⟨ws_in (by omega), ⟨ws_in hp, ?_⟩⟩
    rw [ws_r (by omega) mc, ws_r (by omega) co, hc]
    by_cases z : mc (p * 6 + k) = nI c
    · exact br_t z (h0 ⟨k, by omega, by omega, z⟩)
    · refine br_f z (nm_r (nI_1 k) ?_)
      refine ih (k + 1) (by omega) (fun g => ?_) (fun g => ?_)
      · obtain ⟨i, a, b, e⟩ := g
        exact h0 ⟨i, by omega, b, e⟩
      · refine h1 (fun i a b => ?_)
        by_cases q : i = k
        · rw [q]
          exact z
        · exact g i (by omega) b
theorem wx_clean {post : Int32 → Prop} {p c : Nat} (hp : p < 6) (hn : n ≤ 6) (hc : co p = nI c) (hc2 : c < 2 ^ 31)
    (h0 : (c = 1 ∨ ∃ i, i < n ∧ mc (p * 6 + i) = nI c) → post 0) (h1 : c ≠ 1 → (∀ i, i < n → ¬ mc (p * 6 + i) = nI c) → post 1) : wpX_collectWasClean post ((nI n), (nI L), (nI w), (nI ub), vV, vC, hV, H, ph, st, it, sw, ew, lb, vw, co, nx, lc, mc, fc, rv) (nI p) := by
  have ec : co (nI p).toNatClampNeg = 1 ↔ c = 1 := by
    rw [ws_r (by omega) co, hc]
    exact nI_eq (b := 1) hc2 (by decide)
  refine ⟨ws_in hp, ?_⟩
  by_cases z : c = 1
  · exact br_t (ec.mpr z) (h0 (Or.inl z))
  · refine br_f (fun y => z (ec.mp y)) ⟨n + 1, ?_⟩
    refine wx_clean_lp hp hn hc n 0 (by omega) (fun g => ?_) (fun g => ?_)
    · obtain ⟨i, _, b, e⟩ := g
      exact h0 (Or.inr ⟨i, b, e⟩)
    · exact h1 z (fun i b => g i (by omega) b)
theorem wx_next {post : St2 → Prop} {p : Nat} (hp : p < 6) (h : post ((nI n), (nI L), (nI w), (nI ub), vV, vC, hV, H, ph, st, it, sw, ew, lb, vw, (upd co p (co p + 1)), (upd nx p 0), (upd lc p (nI w)), mc, fc, rv)) : wpX_startNextCollect post ((nI n), (nI L), (nI w), (nI ub), vV, vC, hV, H, ph, st, it, sw, ew, lb, vw, co, nx, lc, mc, fc, rv) (nI p) := by
  have i : vp_in (nI p) 6 := ws_in hp
  exact ⟨i, nm_r (ws_u (by omega) lc (nI w)) ⟨i, ⟨i, nm_r (e' := upd co p (co p + 1)) (by rw [nI_clamp (by omega)]) ⟨i, nm_r (ws_u (by omega) nx 0) h⟩⟩⟩⟩
end
