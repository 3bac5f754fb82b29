/-! run and schedule, step by step on both sides -/
theorem ws_t {p : Nat} (hp : p < 774) {f : Nat → Int32} {x : Int32} (e : f p = x) : f (nI p).toNatClampNeg = x := (ws_r hp f).trans e
theorem ws_nt {p : Nat} (hp : p < 774) {f : Nat → Int32} {x : Int32} (e : ¬ f p = x) : ¬ f (nI p).toNatClampNeg = x := fun y => e ((ws_r hp f).symm.trans y)
section
variable {n L w ub : Nat} {vV vC hV H ph st it sw ew lb vw co nx lc mc fc rv wr wn ca rd yv ra : Nat → Int32} {p : Nat}
theorem ws_yidle {post : Int32 → SY → Prop} {kk K : Nat} {dn : Int32} (hp : p < 6) (hk : kk < 2 ^ 31) (hK : (kk ≤ 64 ∧ K = kk) ∨ (64 < kk ∧ K = 64)) (e0 : ph p = 0) (h : post dn ((nI w), (nI n), (nI L), (nI ub), wr, wn, ca, H, ph, st, rd, it, sw, ew, lb, yv, ra)) :
    ∀ d t : Nat, t + d = K → wY_run_44 post (nI p) (nI kk) (d + 1) dn (nI t) (nI w) (nI n) (nI L) (nI ub) wr wn ca H ph st rd it sw ew lb yv ra := by
  intro d
  induction d with
  | zero =>
    intro t ht
    by_cases z : kk ≤ t
    · exact br_t (nI_le z (by omega)) h
    · exact br_f (nI_ge (by omega) (by omega)) (br_t (nI_le (a := 64) (by omega) (by omega)) h)
  | succ d ih =>
    intro t ht
    refine br_f (nI_ge (by omega) (by omega)) (br_f (nI_ge (b := 64) (by omega) (by omega)) ⟨ws_in hp, ?_⟩)
    refine br_t (ws_t (f := ph) (by omega) (e0)) (nm_r (nI_1 t) ?_)
    exact ih (t + 1) (by omega)
theorem ws_run_lp {kk K : Nat} (hn : n ≤ 6) (hp : p < n) (hk : kk < 2 ^ 31) (hK : (kk ≤ 64 ∧ K = kk) ∨ (64 < kk ∧ K = 64)) : ∀ (d t : Nat) (u : SX) (v : SY), t + d = K → ws_S n u v →
    ∃ r u' v', ws_S n u' v' ∧ (∀ post, post r u' → wX_run_55 post (nI p) (nI K) (d + 1) (nI t) u.1 u.2.1 u.2.2.1 u.2.2.2.1 u.2.2.2.2.1 u.2.2.2.2.2.1 u.2.2.2.2.2.2.1 u.2.2.2.2.2.2.2.1 u.2.2.2.2.2.2.2.2.1 u.2.2.2.2.2.2.2.2.2.1 u.2.2.2.2.2.2.2.2.2.2.1 u.2.2.2.2.2.2.2.2.2.2.2.1 u.2.2.2.2.2.2.2.2.2.2.2.2.1 u.2.2.2.2.2.2.2.2.2.2.2.2.2.1 u.2.2.2.2.2.2.2.2.2.2.2.2.2.2.1 u.2.2.2.2.2.2.2.2.2.2.2.2.2.2.2.1 u.2.2.2.2.2.2.2.2.2.2.2.2.2.2.2.2.1 u.2.2.2.2.2.2.2.2.2.2.2.2.2.2.2.2.2.1 u.2.2.2.2.2.2.2.2.2.2.2.2.2.2.2.2.2.2.1 u.2.2.2.2.2.2.2.2.2.2.2.2.2.2.2.2.2.2.2.1 u.2.2.2.2.2.2.2.2.2.2.2.2.2.2.2.2.2.2.2.2) ∧ (∀ post, post r v' → wY_run_44 post (nI p) (nI kk) (d + 1) (nI t) (nI t) v.1 v.2.1 v.2.2.1 v.2.2.2.1 v.2.2.2.2.1 v.2.2.2.2.2.1 v.2.2.2.2.2.2.1 v.2.2.2.2.2.2.2.1 v.2.2.2.2.2.2.2.2.1 v.2.2.2.2.2.2.2.2.2.1 v.2.2.2.2.2.2.2.2.2.2.1 v.2.2.2.2.2.2.2.2.2.2.2.1 v.2.2.2.2.2.2.2.2.2.2.2.2.1 v.2.2.2.2.2.2.2.2.2.2.2.2.2.1 v.2.2.2.2.2.2.2.2.2.2.2.2.2.2.1 v.2.2.2.2.2.2.2.2.2.2.2.2.2.2.2.1 v.2.2.2.2.2.2.2.2.2.2.2.2.2.2.2.2) := by
  intro d
  induction d with
  | zero =>
    intro t u v ht hS
    refine ⟨nI t, u, v, hS, fun post h => ?_, fun post h => ?_⟩
    · obtain ⟨L, w, ub, vV, vC, hV, H, ph, st, it, sw, ew, lb, vw, co, nx, lc, mc, fc, rv, wr, wn, ca, rd, yv, ra, rfl, rfl, hR⟩ := hS
      exact br_t (nI_le (by omega) (by omega)) h
    · obtain ⟨L, w, ub, vV, vC, hV, H, ph, st, it, sw, ew, lb, vw, co, nx, lc, mc, fc, rv, wr, wn, ca, rd, yv, ra, rfl, rfl, hR⟩ := hS
      by_cases z : kk ≤ t
      · exact br_t (nI_le z (by omega)) h
      · exact br_f (nI_ge (by omega) (by omega)) (br_t (nI_le (a := 64) (by omega) (by omega)) h)
  | succ d ih =>
    intro t u v ht hS
    obtain ⟨L, w, ub, vV, vC, hV, H, ph, st, it, sw, ew, lb, vw, co, nx, lc, mc, fc, rv, wr, wn, ca, rd, yv, ra, rfl, rfl, hR⟩ := hS
    have hp6 : p < 6 := by omega
    by_cases e0 : ph p = 0
    · refine ⟨nI t, _, _, ws_S_i (H := H) (st := st) (it := it) (sw := sw) (lb := lb) hR, fun post h => ?_, fun post h => ?_⟩
      · exact br_f (nI_ge (by omega) (by omega)) ⟨ws_in hp6, br_t (ws_t (f := ph) (by omega) (e0)) h⟩
      · exact ws_yidle hp6 hk hK e0 h (d + 1) t ht
    · obtain ⟨u1, v1, hS1, sx, sy⟩ := ws_step (H := H) (st := st) (it := it) (sw := sw) (lb := lb) hR hp e0
      obtain ⟨r, u', v', hS', gx, gy⟩ := ih (t + 1) u1 v1 (by omega) hS1
      refine ⟨r, u', v', hS', fun post h => ?_, fun post h => ?_⟩
      · have g := gx post h
        obtain ⟨L1, w1, ub1, vV1, vC1, hV1, H1, ph1, st1, it1, sw1, ew1, lb1, vw1, co1, nx1, lc1, mc1, fc1, rv1, wr1, wn1, ca1, rd1, yv1, ra1, rfl, rfl, hR1⟩ := hS1
        refine br_f (nI_ge (by omega) (by omega)) ⟨ws_in hp6, br_f (ws_nt (f := ph) (by omega) (e0)) (sx _ ?_)⟩
        exact nm_r (nI_1 t) g
      · have g := gy post h
        obtain ⟨L1, w1, ub1, vV1, vC1, hV1, H1, ph1, st1, it1, sw1, ew1, lb1, vw1, co1, nx1, lc1, mc1, fc1, rv1, wr1, wn1, ca1, rd1, yv1, ra1, rfl, rfl, hR1⟩ := hS1
        refine br_f (nI_ge (by omega) (by omega)) (br_f (nI_ge (b := 64) (by omega) (by omega)) ⟨ws_in hp6, br_f (ws_nt (f := ph) (by omega) (e0)) (sy _ ?_)⟩)
        exact nm_r (nI_1 t) (nm_r (nI_1 t) g)
theorem ws_run (hR : ws_R n L w ub vV vC hV ph ew vw co nx lc mc fc rv wr wn ca rd yv ra) (v1 v2 : Int32) :
    ∃ r u' v', ws_S n u' v' ∧ (∀ post, post r u' → wpX_run post ((nI n), (nI L), (nI w), (nI ub), vV, vC, hV, H, ph, st, it, sw, ew, lb, vw, co, nx, lc, mc, fc, rv) v1 v2) ∧ (∀ post, post r v' → wpY_run post ((nI w), (nI n), (nI L), (nI ub), wr, wn, ca, H, ph, st, rd, it, sw, ew, lb, yv, ra) v1 v2) := by
  have h6 := hR.2.1
  rcases pk_ix v1 (show n < 2 ^ 31 by omega) with z | z | ⟨p, hp, rfl⟩
  · refine ⟨-1, _, _, ws_S_i (H := H) (st := st) (it := it) (sw := sw) (lb := lb) hR, fun post h => ?_, fun post h => ?_⟩
    · unfold wpX_run
      exact wx_out (Or.inl z) (br_t rfl h)
    · unfold wpY_run
      exact wy_out (Or.inl z) (br_f (by decide) h)
  · refine ⟨-1, _, _, ws_S_i (H := H) (st := st) (it := it) (sw := sw) (lb := lb) hR, fun post h => ?_, fun post h => ?_⟩
    · unfold wpX_run
      exact wx_out (Or.inr z) (br_t rfl h)
    · unfold wpY_run
      exact wy_out (Or.inr z) (br_f (by decide) h)
  · have hp6 : p < 6 := by omega
    by_cases k1 : 1 ≤ v2
    · by_cases eh : H p = 0
      · by_cases e0 : ph p = 0
        · refine ⟨-5, _, _, ws_S_i (H := H) (st := st) (it := it) (sw := sw) (lb := lb) hR, fun post h => ?_, fun post h => ?_⟩
          · unfold wpX_run
            exact wx_in hp h6 (br_f (by decide) (br_t k1 ⟨ws_in hp6, br_t (ws_t (f := H) (by omega) (eh)) ⟨ws_in hp6, br_t (ws_t (f := ph) (by omega) (e0)) h⟩⟩))
          · unfold wpY_run
            exact wy_in hp h6 (br_t rfl (br_t k1 ⟨ws_in hp6, br_t (ws_t (f := H) (by omega) (eh)) ⟨ws_in hp6, br_t (ws_t (f := ph) (by omega) (e0)) h⟩⟩))
        · obtain ⟨kk, hk, rfl⟩ := nI_of (x := v2) (fun y => Int32.lt_irrefl (Int32.lt_of_lt_of_le y (Int32.le_trans (by decide) k1)))
          have s0 := ws_S_i (H := H) (st := st) (it := it) (sw := sw) (lb := lb) hR
          by_cases c : kk ≤ 64
          · obtain ⟨r, u', v', hS', gx, gy⟩ := ws_run_lp (kk := kk) (K := kk) h6 hp hk (Or.inl ⟨c, rfl⟩) kk 0 _ _ (by omega) s0
            refine ⟨r, u', v', hS', fun post h => ?_, fun post h => ?_⟩
            · unfold wpX_run
              exact wx_in hp h6 (br_f (by decide) (br_t k1 ⟨ws_in hp6, br_t (ws_t (f := H) (by omega) (eh)) ⟨ws_in hp6, br_f (ws_nt (f := ph) (by omega) (e0)) (br_t (nI_le (b := 64) c (by decide)) ⟨_, gx post h⟩)⟩⟩))
            · unfold wpY_run
              exact wy_in hp h6 (br_t rfl (br_t k1 ⟨ws_in hp6, br_t (ws_t (f := H) (by omega) (eh)) ⟨ws_in hp6, br_f (ws_nt (f := ph) (by omega) (e0)) ⟨_, gy post h⟩⟩⟩))
          · obtain ⟨r, u', v', hS', gx, gy⟩ := ws_run_lp (kk := kk) (K := 64) h6 hp hk (Or.inr ⟨by omega, rfl⟩) 64 0 _ _ (by omega) s0
            refine ⟨r, u', v', hS', fun post h => ?_, fun post h => ?_⟩
            · unfold wpX_run
              exact wx_in hp h6 (br_f (by decide) (br_t k1 ⟨ws_in hp6, br_t (ws_t (f := H) (by omega) (eh)) ⟨ws_in hp6, br_f (ws_nt (f := ph) (by omega) (e0)) (br_f (nI_ge (a := 64) (by omega) (by omega)) ⟨_, gx post h⟩)⟩⟩))
            · unfold wpY_run
              exact wy_in hp h6 (br_t rfl (br_t k1 ⟨ws_in hp6, br_t (ws_t (f := H) (by omega) (eh)) ⟨ws_in hp6, br_f (ws_nt (f := ph) (by omega) (e0)) ⟨_, gy post h⟩⟩⟩))
      · refine ⟨-2, _, _, ws_S_i (H := H) (st := st) (it := it) (sw := sw) (lb := lb) hR, fun post h => ?_, fun post h => ?_⟩
        · unfold wpX_run
          exact wx_in hp h6 (br_f (by decide) (br_t k1 ⟨ws_in hp6, br_f (ws_nt (f := H) (by omega) (eh)) h⟩))
        · unfold wpY_run
          exact wy_in hp h6 (br_t rfl (br_t k1 ⟨ws_in hp6, br_f (ws_nt (f := H) (by omega) (eh)) h⟩))
    · refine ⟨-1, _, _, ws_S_i (H := H) (st := st) (it := it) (sw := sw) (lb := lb) hR, fun post h => ?_, fun post h => ?_⟩
      · unfold wpX_run
        exact wx_in hp h6 (br_f (by decide) (br_f k1 h))
      · unfold wpY_run
        exact wy_in hp h6 (br_t rfl (br_f k1 h))
theorem wx_can_t {post : Int32 → Prop} (h6 : n ≤ 6) (hp : p < n) (eh : H p = 0) (e0 : ¬ ph p = 0) (h : post 1) : wpX_canStep post ((nI n), (nI L), (nI w), (nI ub), vV, vC, hV, H, ph, st, it, sw, ew, lb, vw, co, nx, lc, mc, fc, rv) (nI p) := by
  unfold wpX_canStep
  exact wx_in hp h6 (br_f (by decide) ⟨ws_in (by omega), br_t (ws_t (f := H) (by omega) (eh)) ⟨ws_in (by omega), br_f (ws_nt (f := ph) (by omega) (e0)) h⟩⟩)
theorem wx_can_f {post : Int32 → Prop} (h6 : n ≤ 6) (hp : p < 2 ^ 31) (c : n ≤ p ∨ ¬ H p = 0 ∨ ph p = 0) (h : post 0) : wpX_canStep post ((nI n), (nI L), (nI w), (nI ub), vV, vC, hV, H, ph, st, it, sw, ew, lb, vw, co, nx, lc, mc, fc, rv) (nI p) := by
  unfold wpX_canStep
  by_cases z : n ≤ p
  · exact wx_out (Or.inr (nI_le z hp)) (br_t rfl h)
  · refine wx_in (by omega) h6 (br_f (by decide) ⟨ws_in (by omega), ?_⟩)
    by_cases eh : H p = 0
    · exact br_t (ws_t (f := H) (by omega) (eh)) ⟨ws_in (by omega), br_t (ws_t (f := ph) (by omega) ((c.resolve_left z).resolve_left (fun y => y eh))) h⟩
    · exact br_f (ws_nt (f := H) (by omega) (eh)) h
theorem ws_sch_lp (x1 : Int32) (h6 : n ≤ 6) : ∀ (d t : Nat) (dn : Int32) (u : SX) (v : SY), t + d = 8 → ws_S n u v →
    ∃ r u' v', ws_S n u' v' ∧ (∀ post, post r u' → wX_schedule_4 post x1 (d + 1) dn (nI t) u.1 u.2.1 u.2.2.1 u.2.2.2.1 u.2.2.2.2.1 u.2.2.2.2.2.1 u.2.2.2.2.2.2.1 u.2.2.2.2.2.2.2.1 u.2.2.2.2.2.2.2.2.1 u.2.2.2.2.2.2.2.2.2.1 u.2.2.2.2.2.2.2.2.2.2.1 u.2.2.2.2.2.2.2.2.2.2.2.1 u.2.2.2.2.2.2.2.2.2.2.2.2.1 u.2.2.2.2.2.2.2.2.2.2.2.2.2.1 u.2.2.2.2.2.2.2.2.2.2.2.2.2.2.1 u.2.2.2.2.2.2.2.2.2.2.2.2.2.2.2.1 u.2.2.2.2.2.2.2.2.2.2.2.2.2.2.2.2.1 u.2.2.2.2.2.2.2.2.2.2.2.2.2.2.2.2.2.1 u.2.2.2.2.2.2.2.2.2.2.2.2.2.2.2.2.2.2.1 u.2.2.2.2.2.2.2.2.2.2.2.2.2.2.2.2.2.2.2.1 u.2.2.2.2.2.2.2.2.2.2.2.2.2.2.2.2.2.2.2.2) ∧ (∀ post, post r v' → wY_schedule_4 post x1 (d + 1) dn (nI t) v.1 v.2.1 v.2.2.1 v.2.2.2.1 v.2.2.2.2.1 v.2.2.2.2.2.1 v.2.2.2.2.2.2.1 v.2.2.2.2.2.2.2.1 v.2.2.2.2.2.2.2.2.1 v.2.2.2.2.2.2.2.2.2.1 v.2.2.2.2.2.2.2.2.2.2.1 v.2.2.2.2.2.2.2.2.2.2.2.1 v.2.2.2.2.2.2.2.2.2.2.2.2.1 v.2.2.2.2.2.2.2.2.2.2.2.2.2.1 v.2.2.2.2.2.2.2.2.2.2.2.2.2.2.1 v.2.2.2.2.2.2.2.2.2.2.2.2.2.2.2.1 v.2.2.2.2.2.2.2.2.2.2.2.2.2.2.2.2) := by
  intro d
  induction d with
  | zero =>
    intro t dn u v ht hS
    refine ⟨dn, u, v, hS, fun post h => ?_, fun post h => ?_⟩
    · obtain ⟨L, w, ub, vV, vC, hV, H, ph, st, it, sw, ew, lb, vw, co, nx, lc, mc, fc, rv, wr, wn, ca, rd, yv, ra, rfl, rfl, hR⟩ := hS
      exact br_t (nI_le (a := 8) (by omega) (by omega)) h
    · obtain ⟨L, w, ub, vV, vC, hV, H, ph, st, it, sw, ew, lb, vw, co, nx, lc, mc, fc, rv, wr, wn, ca, rd, yv, ra, rfl, rfl, hR⟩ := hS
      exact br_t (nI_le (a := 8) (by omega) (by omega)) h
  | succ d ih =>
    intro t dn u v ht hS
    obtain ⟨p, hp16, ep⟩ := pk_andE ((x1.toUInt32 >>> ((nI t * 4).toUInt32 &&& Int32.toUInt32 31)).toInt32) (m := 15) 4 (by decide)
    have ep2 : ((x1.toUInt32 >>> ((4 * nI t).toUInt32 &&& Int32.toUInt32 31)).toInt32) &&& 15 = nI p := by
      rw [Int32.mul_comm 4 (nI t)]
      exact ep
    have hp16' : p < 16 := hp16
    have hS0 := hS
    obtain ⟨L, w, ub, vV, vC, hV, H, ph, st, it, sw, ew, lb, vw, co, nx, lc, mc, fc, rv, wr, wn, ca, rd, yv, ra, rfl, rfl, hR⟩ := hS
    by_cases c : n ≤ p ∨ ¬ H p = 0 ∨ ph p = 0
    · obtain ⟨r, u', v', hS', gx, gy⟩ := ih (t + 1) dn _ _ (by omega) hS0
      refine ⟨r, u', v', hS', fun post h => ?_, fun post h => ?_⟩
      · refine br_f (nI_ge (b := 8) (by omega) (by omega)) (nm_r ep ?_)
        exact wx_can_f h6 (by omega) c (br_t rfl (nm_r (nI_1 t) (gx post h)))
      · refine br_f (nI_ge (b := 8) (by omega) (by omega)) (nm_r ep2 ?_)
        by_cases z : n ≤ p
        · exact br_t (nI_le z (by omega)) (nm_r (nI_1 t) (gy post h))
        · refine br_f (nI_ge (by omega) (by omega)) ⟨ws_in (by omega), ?_⟩
          by_cases eh : H p = 0
          · exact br_t (ws_t (f := H) (by omega) (eh)) ⟨ws_in (by omega), br_t (ws_t (f := ph) (by omega) ((c.resolve_left z).resolve_left (fun y => y eh))) (nm_r (nI_1 t) (gy post h))⟩
          · exact br_f (ws_nt (f := H) (by omega) (eh)) (nm_r (nI_1 t) (gy post h))
    · have hpn : p < n := by
        by_cases z : n ≤ p
        · exact absurd (Or.inl z) c
        · omega
      have eh : H p = 0 := by
        by_cases z : H p = 0
        · exact z
        · exact absurd (Or.inr (Or.inl z)) c
      have e0 : ¬ ph p = 0 := fun z => c (Or.inr (Or.inr z))
      obtain ⟨u1, v1, hS1, sx, sy⟩ := ws_step (H := H) (st := st) (it := it) (sw := sw) (lb := lb) hR hpn e0
      obtain ⟨r, u', v', hS', gx, gy⟩ := ih (t + 1) (dn + 1) u1 v1 (by omega) hS1
      refine ⟨r, u', v', hS', fun post h => ?_, fun post h => ?_⟩
      · have g := gx post h
        obtain ⟨L1, w1, ub1, vV1, vC1, hV1, H1, ph1, st1, it1, sw1, ew1, lb1, vw1, co1, nx1, lc1, mc1, fc1, rv1, wr1, wn1, ca1, rd1, yv1, ra1, rfl, rfl, hR1⟩ := hS1
        refine br_f (nI_ge (b := 8) (by omega) (by omega)) (nm_r ep ?_)
        refine wx_can_t h6 hpn eh e0 (br_f (by decide) (sx _ ?_))
        exact nm_e (nm_r (nI_1 t) g)
      · have g := gy post h
        obtain ⟨L1, w1, ub1, vV1, vC1, hV1, H1, ph1, st1, it1, sw1, ew1, lb1, vw1, co1, nx1, lc1, mc1, fc1, rv1, wr1, wn1, ca1, rd1, yv1, ra1, rfl, rfl, hR1⟩ := hS1
        refine br_f (nI_ge (b := 8) (by omega) (by omega)) (nm_r ep2 ?_)
        refine br_f (nI_ge (by omega) (by omega)) ⟨ws_in (by omega), br_t (ws_t (f := H) (by omega) (eh)) ⟨ws_in (by omega), br_f (ws_nt (f := ph) (by omega) (e0)) (sy _ ?_)⟩⟩
        exact nm_e (nm_r (nI_1 t) g)
theorem ws_sch (hR : ws_R n L w ub vV vC hV ph ew vw co nx lc mc fc rv wr wn ca rd yv ra) (v1 : Int32) :
    ∃ r u' v', ws_S n u' v' ∧ (∀ post, post r u' → wpX_schedule post ((nI n), (nI L), (nI w), (nI ub), vV, vC, hV, H, ph, st, it, sw, ew, lb, vw, co, nx, lc, mc, fc, rv) v1) ∧ (∀ post, post r v' → wpY_schedule post ((nI w), (nI n), (nI L), (nI ub), wr, wn, ca, H, ph, st, rd, it, sw, ew, lb, yv, ra) v1) := by
  obtain ⟨r, u', v', hS', gx, gy⟩ := ws_sch_lp v1 hR.2.1 8 0 0 _ _ rfl (ws_S_i (H := H) (st := st) (it := it) (sw := sw) (lb := lb) hR)
  exact ⟨r, u', v', hS', fun post h => ⟨_, gx post h⟩, fun post h => ⟨_, gy post h⟩⟩
end
