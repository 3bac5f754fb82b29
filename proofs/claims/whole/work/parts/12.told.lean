/-! what the getters tell -/
theorem ws_where {n : Nat} (h6 : n ≤ 6) (x : Int32) : (x < 0 ∨ nI n ≤ x) ∨ ∃ p : Nat, p < n ∧ x = nI p := by
  rcases pk_ix x (show n < 2 ^ 31 by omega) with y | y | y
  · exact Or.inl (Or.inl y)
  · exact Or.inl (Or.inr y)
  · exact Or.inr y
section
variable {n L w ub : Nat} {vV vC hV H ph st it sw ew lb vw co nx lc mc fc rv wr wn ca rd yv ra : Nat → Int32} {p : Nat}
theorem ws_phase (h6 : n ≤ 6) (v1 : Int32) : ∃ r, (∀ post, post r → wpX_phase post ((nI n), (nI L), (nI w), (nI ub), vV, vC, hV, H, ph, st, it, sw, ew, lb, vw, co, nx, lc, mc, fc, rv) v1) ∧ (∀ post, post r → wpY_phase post ((nI w), (nI n), (nI L), (nI ub), wr, wn, ca, H, ph, st, rd, it, sw, ew, lb, yv, ra) v1) := by
  rcases ws_where h6 v1 with z | ⟨p, hp, rfl⟩
  · refine ⟨-1, fun post h => ?_, fun post h => ?_⟩
    · unfold wpX_phase
      exact wx_out z (br_t rfl h)
    · unfold wpY_phase
      exact wy_out z (br_f (by decide) h)
  · by_cases eh : H p = 0
    · refine ⟨ph (nI p).toNatClampNeg, fun post h => ?_, fun post h => ?_⟩
      · unfold wpX_phase
        exact wx_in hp h6 (br_f (by decide) ⟨ws_in (by omega), br_t (ws_t (f := H) (by omega) eh) ⟨ws_in (by omega), h⟩⟩)
      · unfold wpY_phase
        exact wy_in hp h6 (br_t rfl ⟨ws_in (by omega), br_t (ws_t (f := H) (by omega) eh) ⟨ws_in (by omega), h⟩⟩)
    · refine ⟨ph (nI p).toNatClampNeg + 4, fun post h => ?_, fun post h => ?_⟩
      · unfold wpX_phase
        exact wx_in hp h6 (br_f (by decide) ⟨ws_in (by omega), br_f (ws_nt (f := H) (by omega) eh) ⟨ws_in (by omega), h⟩⟩)
      · unfold wpY_phase
        exact wy_in hp h6 (br_t rfl ⟨ws_in (by omega), br_f (ws_nt (f := H) (by omega) eh) ⟨ws_in (by omega), h⟩⟩)
theorem ws_steps (h6 : n ≤ 6) (v1 : Int32) : ∃ r, (∀ post, post r → wpX_steps post ((nI n), (nI L), (nI w), (nI ub), vV, vC, hV, H, ph, st, it, sw, ew, lb, vw, co, nx, lc, mc, fc, rv) v1) ∧ (∀ post, post r → wpY_steps post ((nI w), (nI n), (nI L), (nI ub), wr, wn, ca, H, ph, st, rd, it, sw, ew, lb, yv, ra) v1) := by
  rcases ws_where h6 v1 with z | ⟨p, hp, rfl⟩
  · refine ⟨-1, fun post h => ?_, fun post h => ?_⟩
    · unfold wpX_steps
      exact wx_out z (br_t rfl h)
    · unfold wpY_steps
      exact wy_out z (br_f (by decide) h)
  · refine ⟨st (nI p).toNatClampNeg, fun post h => ?_, fun post h => ?_⟩
    · unfold wpX_steps
      exact wx_in hp h6 (br_f (by decide) ⟨ws_in (by omega), h⟩)
    · unfold wpY_steps
      exact wy_in hp h6 (br_t rfl ⟨ws_in (by omega), h⟩)
theorem ws_startedAt (h6 : n ≤ 6) (v1 : Int32) : ∃ r, (∀ post, post r → wpX_startedAt post ((nI n), (nI L), (nI w), (nI ub), vV, vC, hV, H, ph, st, it, sw, ew, lb, vw, co, nx, lc, mc, fc, rv) v1) ∧ (∀ post, post r → wpY_startedAt post ((nI w), (nI n), (nI L), (nI ub), wr, wn, ca, H, ph, st, rd, it, sw, ew, lb, yv, ra) v1) := by
  rcases ws_where h6 v1 with z | ⟨p, hp, rfl⟩
  · refine ⟨-1, fun post h => ?_, fun post h => ?_⟩
    · unfold wpX_startedAt
      exact wx_out z (br_t rfl h)
    · unfold wpY_startedAt
      exact wy_out z (br_f (by decide) h)
  · refine ⟨sw (nI p).toNatClampNeg, fun post h => ?_, fun post h => ?_⟩
    · unfold wpX_startedAt
      exact wx_in hp h6 (br_f (by decide) ⟨ws_in (by omega), h⟩)
    · unfold wpY_startedAt
      exact wy_in hp h6 (br_t rfl ⟨ws_in (by omega), h⟩)
theorem ws_endedAt (h6 : n ≤ 6) (v1 : Int32) : ∃ r, (∀ post, post r → wpX_endedAt post ((nI n), (nI L), (nI w), (nI ub), vV, vC, hV, H, ph, st, it, sw, ew, lb, vw, co, nx, lc, mc, fc, rv) v1) ∧ (∀ post, post r → wpY_endedAt post ((nI w), (nI n), (nI L), (nI ub), wr, wn, ca, H, ph, st, rd, it, sw, ew, lb, yv, ra) v1) := by
  rcases ws_where h6 v1 with z | ⟨p, hp, rfl⟩
  · refine ⟨-1, fun post h => ?_, fun post h => ?_⟩
    · unfold wpX_endedAt
      exact wx_out z (br_t rfl h)
    · unfold wpY_endedAt
      exact wy_out z (br_f (by decide) h)
  · refine ⟨ew (nI p).toNatClampNeg, fun post h => ?_, fun post h => ?_⟩
    · unfold wpX_endedAt
      exact wx_in hp h6 (br_f (by decide) ⟨ws_in (by omega), h⟩)
    · unfold wpY_endedAt
      exact wy_in hp h6 (br_t rfl ⟨ws_in (by omega), h⟩)
theorem ws_lender (h6 : n ≤ 6) (v1 : Int32) : ∃ r, (∀ post, post r → wpX_lender post ((nI n), (nI L), (nI w), (nI ub), vV, vC, hV, H, ph, st, it, sw, ew, lb, vw, co, nx, lc, mc, fc, rv) v1) ∧ (∀ post, post r → wpY_lender post ((nI w), (nI n), (nI L), (nI ub), wr, wn, ca, H, ph, st, rd, it, sw, ew, lb, yv, ra) v1) := by
  rcases ws_where h6 v1 with z | ⟨p, hp, rfl⟩
  · refine ⟨-1, fun post h => ?_, fun post h => ?_⟩
    · unfold wpX_lender
      exact wx_out z (br_t rfl h)
    · unfold wpY_lender
      exact wy_out z (br_f (by decide) h)
  · refine ⟨lb (nI p).toNatClampNeg, fun post h => ?_, fun post h => ?_⟩
    · unfold wpX_lender
      exact wx_in hp h6 (br_f (by decide) ⟨ws_in (by omega), h⟩)
    · unfold wpY_lender
      exact wy_in hp h6 (br_t rfl ⟨ws_in (by omega), h⟩)
theorem wx_int1 {post : Int32 → Prop} (hp : p < 6) (h : post (it (nI p).toNatClampNeg)) : wX_intent_30 post (nI p) (nI n) (nI L) (nI w) (nI ub) vV vC hV H ph st it sw ew lb vw co nx lc mc fc rv := by
  unfold wX_intent_30
  exact br_f (by decide) ⟨ws_in hp, h⟩
theorem ws_intent (h6 : n ≤ 6) (v1 : Int32) : ∃ r, (∀ post, post r → wpX_intent post ((nI n), (nI L), (nI w), (nI ub), vV, vC, hV, H, ph, st, it, sw, ew, lb, vw, co, nx, lc, mc, fc, rv) v1) ∧ (∀ post, post r → wpY_intent post ((nI w), (nI n), (nI L), (nI ub), wr, wn, ca, H, ph, st, rd, it, sw, ew, lb, yv, ra) v1) := by
  rcases ws_where h6 v1 with z | ⟨p, hp, rfl⟩
  · refine ⟨0, fun post h => ?_, fun post h => ?_⟩
    · unfold wpX_intent
      exact wx_out z (br_t rfl h)
    · unfold wpY_intent
      exact wy_out z (br_f (by decide) h)
  · have hp6 : p < 6 := by omega
    by_cases e2 : ph p = 2
    · refine ⟨it (nI p).toNatClampNeg, fun post h => ?_, fun post h => ?_⟩
      · unfold wpX_intent
        exact wx_in hp h6 (br_f (by decide) ⟨ws_in hp6, br_t (ws_t (f := ph) (by omega) e2) (wx_int1 hp6 h)⟩)
      · unfold wpY_intent
        exact wy_in hp h6 (br_t rfl ⟨ws_in hp6, br_t (ws_t (f := ph) (by omega) e2) ⟨ws_in hp6, h⟩⟩)
    · by_cases e3 : ph p = 3
      · refine ⟨it (nI p).toNatClampNeg, fun post h => ?_, fun post h => ?_⟩
        · unfold wpX_intent
          exact wx_in hp h6 (br_f (by decide) ⟨ws_in hp6, br_f (ws_nt (f := ph) (by omega) e2) ⟨ws_in hp6, br_t (ws_t (f := ph) (by omega) e3) (wx_int1 hp6 h)⟩⟩)
        · unfold wpY_intent
          exact wy_in hp h6 (br_t rfl ⟨ws_in hp6, br_f (ws_nt (f := ph) (by omega) e2) ⟨ws_in hp6, br_t (ws_t (f := ph) (by omega) e3) ⟨ws_in hp6, h⟩⟩⟩)
      · refine ⟨0, fun post h => ?_, fun post h => ?_⟩
        · unfold wpX_intent
          exact wx_in hp h6 (br_f (by decide) ⟨ws_in hp6, br_f (ws_nt (f := ph) (by omega) e2) ⟨ws_in hp6, br_f (ws_nt (f := ph) (by omega) e3) (br_t rfl h)⟩⟩)
        · unfold wpY_intent
          exact wy_in hp h6 (br_t rfl ⟨ws_in hp6, br_f (ws_nt (f := ph) (by omega) e2) ⟨ws_in hp6, br_f (ws_nt (f := ph) (by omega) e3) h⟩⟩)
theorem ws_movedIn (hR : ws_R n L w ub vV vC hV ph ew vw co nx lc mc fc rv wr wn ca rd yv ra) (v1 v2 : Int32) : ∃ r, (∀ post, post r → wpX_movedIn post ((nI n), (nI L), (nI w), (nI ub), vV, vC, hV, H, ph, st, it, sw, ew, lb, vw, co, nx, lc, mc, fc, rv) v1 v2) ∧ (∀ post, post r → wpY_movedIn post ((nI w), (nI n), (nI L), (nI ub), wr, wn, ca, H, ph, st, rd, it, sw, ew, lb, yv, ra) v1 v2) := by
  obtain ⟨h2, h6, hL, hub, hact, hV', hH, hP⟩ := hR
  rcases ws_where h6 v1 with z | ⟨p, hp, rfl⟩
  · refine ⟨-1, fun post h => ?_, fun post h => ?_⟩
    · unfold wpX_movedIn
      exact wx_out z (br_t rfl h)
    · unfold wpY_movedIn
      exact wy_out z (br_f (by decide) h)
  · rcases ws_where h6 v2 with z | ⟨j, hj, rfl⟩
    · refine ⟨-1, fun post h => ?_, fun post h => ?_⟩
      · unfold wpX_movedIn
        exact wx_in hp h6 (br_f (by decide) (wx_out z (br_t rfl h)))
      · unfold wpY_movedIn
        exact wy_in hp h6 (br_t rfl (wy_out z (br_f (by decide) h)))
    · obtain ⟨r, t, hr, ht, er, et, h1, hT, _⟩ := hP p hp
      refine ⟨nI (ws_mv wr (fun s => ra (p * 64 + s)) n j r), fun post h => ?_, fun post h => ?_⟩
      · unfold wpX_movedIn
        refine wx_in hp h6 (br_f (by decide) (wx_in hj h6 (br_f (by decide) (wx_pair ⟨ws_in (by omega), ?_⟩))))
        rw [ws_r (by omega) mc, show mc (p * 6 + j) = _ from (hT j hj).2]
        exact h
      · exact wy_movedIn hp h2 h6 hj hr er (by omega) h1 h
theorem wx_told_i {post : Int32 → Prop} {k x y : Int32} (z : x < 0 ∨ nI n ≤ x) (h : post (-1)) : wpX_versionTold post ((nI n), (nI L), (nI w), (nI ub), vV, vC, hV, H, ph, st, it, sw, ew, lb, vw, co, nx, lc, mc, fc, rv) k x y := by
  unfold wpX_versionTold
  exact wx_out z (br_t rfl h)
theorem wx_told_j {post : Int32 → Prop} {k y : Int32} (hp : p < n) (h6 : n ≤ 6) (z : y < 0 ∨ nI n ≤ y) (h : post (-1)) : wpX_versionTold post ((nI n), (nI L), (nI w), (nI ub), vV, vC, hV, H, ph, st, it, sw, ew, lb, vw, co, nx, lc, mc, fc, rv) k (nI p) y := by
  unfold wpX_versionTold
  exact wx_in hp h6 (br_f (by decide) (wx_out z (br_t rfl h)))
theorem wx_told_k {post : Int32 → Prop} {k : Int32} {j : Nat} (hp : p < n) (hj : j < n) (h6 : n ≤ 6) (z : k < 0 ∨ 3 < k) (h : post (-1)) : wpX_versionTold post ((nI n), (nI L), (nI w), (nI ub), vV, vC, hV, H, ph, st, it, sw, ew, lb, vw, co, nx, lc, mc, fc, rv) k (nI p) (nI j) := by
  unfold wpX_versionTold
  refine wx_in hp h6 (br_f (by decide) (wx_in hj h6 (br_f (by decide) ?_)))
  by_cases y : k < 0
  · exact br_t y h
  · exact br_f y (br_t (z.resolve_left y) h)
theorem ws_kind (k : Int32) : (k < 0 ∨ 3 < k) ∨ k = 0 ∨ k = 1 ∨ k = 2 ∨ k = 3 := by
  by_cases y : k < 0
  · exact Or.inl (Or.inl y)
  · by_cases z : 3 < k
    · exact Or.inl (Or.inr z)
    · obtain ⟨j, hj, rfl⟩ := nI_of2 (M := 3) (n := 3) (by decide) y (Int32.not_lt.mp z)
      have h4 : j = 0 ∨ j = 1 ∨ j = 2 ∨ j = 3 := by omega
      rcases h4 with rfl | rfl | rfl | rfl
      · exact Or.inr (Or.inl rfl)
      · exact Or.inr (Or.inr (Or.inl rfl))
      · exact Or.inr (Or.inr (Or.inr (Or.inl rfl)))
      · exact Or.inr (Or.inr (Or.inr (Or.inr rfl)))
/-- kinds 0 to 3, both numbers in range: one version is told on both sides -/
theorem ws_told (hR : ws_R n L w ub vV vC hV ph ew vw co nx lc mc fc rv wr wn ca rd yv ra) {j : Nat} (hp : p < n) (hj : j < n) (k : Int32) (hk : k = 0 ∨ k = 1 ∨ k = 2 ∨ k = 3) :
    ∃ r, (r = -6 ∨ ∃ a, a ≤ w ∧ r = nI a) ∧ (∀ post, post r → wpX_versionTold post ((nI n), (nI L), (nI w), (nI ub), vV, vC, hV, H, ph, st, it, sw, ew, lb, vw, co, nx, lc, mc, fc, rv) k (nI p) (nI j)) ∧ (∀ post, post r → wpY_versionFor post ((nI w), (nI n), (nI L), (nI ub), wr, wn, ca, H, ph, st, rd, it, sw, ew, lb, yv, ra) k (nI p) (nI j)) := by
  obtain ⟨h2, h6, hL, hub, hact, hV', hH, hP⟩ := hR
  have hp6 : p < 6 := by omega
  have hw : w ≤ 128 := by omega
  obtain ⟨r, t, hr, ht, er, et, h1, hT, h3, _⟩ := hP p hp
  rcases hk with rfl | rfl | rfl | rfl
  · refine ⟨vw p, ?_, fun post h => ?_, fun post h => ?_⟩
    · rcases h3 with ⟨_, a⟩ | ⟨e, x, he, hx, _, b, _⟩
      · exact Or.inl a
      · exact Or.inr ⟨x, hx, b⟩
    · unfold wpX_versionTold
      refine wx_in hp h6 (br_f (by decide) (wx_in hj h6 (br_f (by decide) (br_f (by decide) (br_f (by decide) (br_t rfl ⟨ws_in hp6, ?_⟩))))))
      rw [ws_r (by omega) vw]
      exact h
    · unfold wpY_versionFor
      refine br_f (by decide) (br_f (by decide) (br_t rfl ⟨ws_in hp6, ?_⟩))
      rw [ws_r (by omega) ew]
      rcases h3 with ⟨a, b⟩ | ⟨e, x, he, hx, a, b, c⟩
      · rw [a]
        rw [b] at h
        exact br_f (by decide) h
      · rw [a]
        refine br_t (nI_pos' (by omega)) ⟨ws_in hp6, ?_⟩
        rw [ws_r (by omega) yv, c, ← b]
        exact h
  · obtain ⟨eh, x, hx, ex⟩ := hH p hp
    refine ⟨hV p, Or.inr ⟨x, hx, ex⟩, fun post h => ?_, fun post h => ?_⟩
    · unfold wpX_versionTold
      refine wx_in hp h6 (br_f (by decide) (wx_in hj h6 (br_f (by decide) (br_f (by decide) (br_f (by decide) (br_f (by decide) (br_t rfl ⟨ws_in hp6, ?_⟩)))))))
      rw [ws_r (by omega) hV]
      exact h
    · unfold wpY_versionFor
      rw [eh] at h
      exact br_f (by decide) (br_t rfl (wy_heldBy hw h))
  · refine ⟨nI w, Or.inr ⟨w, Nat.le_refl w, rfl⟩, fun post h => ?_, fun post h => ?_⟩
    · unfold wpX_versionTold
      exact wx_in hp h6 (br_f (by decide) (wx_in hj h6 (br_f (by decide) (br_f (by decide) (br_f (by decide) (br_f (by decide) (br_f (by decide) (br_t rfl h))))))))
    · unfold wpY_versionFor
      exact br_t rfl h
  · refine ⟨ws_rd (fun s => ra (p * 64 + s)) n j r, ?_, fun post h => ?_, fun post h => ?_⟩
    · rcases ws_rd_none (fun s => ra (p * 64 + s)) n j r with a | ⟨s, hs, a⟩
      · exact Or.inl a
      · obtain ⟨b, hb, eb⟩ := h1 s hs
        exact Or.inr ⟨b, hb, a.trans eb⟩
    · unfold wpX_versionTold
      refine wx_in hp h6 (br_f (by decide) (wx_in hj h6 (br_f (by decide) (br_f (by decide) (br_f (by decide) (br_f (by decide) (br_f (by decide) (br_f (by decide) (br_t rfl (wx_pair ⟨ws_in (by omega), ?_⟩))))))))))
      rw [ws_r (by omega) rv, show rv (p * 6 + j) = _ from (hT j hj).1]
      exact h
    · unfold wpY_versionFor
      exact br_f (by decide) (br_f (by decide) (br_f (by decide) ⟨r + 1, wy_reads_lp hp6 h2 h6 hj hr er r 0 (by omega) h⟩))
theorem ws_value (hR : ws_R n L w ub vV vC hV ph ew vw co nx lc mc fc rv wr wn ca rd yv ra) (v1 v2 v3 : Int32) : ∃ r, (∀ post, post r → wpX_value post ((nI n), (nI L), (nI w), (nI ub), vV, vC, hV, H, ph, st, it, sw, ew, lb, vw, co, nx, lc, mc, fc, rv) v1 v2 v3) ∧ (∀ post, post r → wpY_value post ((nI w), (nI n), (nI L), (nI ub), wr, wn, ca, H, ph, st, rd, it, sw, ew, lb, yv, ra) v1 v2 v3) := by
  have h6 := hR.2.1
  have hk := ws_kind v1
  by_cases bad : v1 < 0 ∨ 3 < v1 ∨ (v2 < 0 ∨ nI n ≤ v2) ∨ (v3 < 0 ∨ nI n ≤ v3)
  · refine ⟨0, fun post h => ?_, fun post h => ?_⟩
    · unfold wpX_value
      rcases ws_where h6 v2 with z | ⟨p, hp, rfl⟩
      · exact wx_told_i z (br_f (by decide) h)
      · rcases ws_where h6 v3 with z | ⟨j, hj, rfl⟩
        · exact wx_told_j hp h6 z (br_f (by decide) h)
        · refine wx_told_k hp hj h6 ?_ (br_f (by decide) h)
          rcases bad with b | b | b | b
          · exact Or.inl b
          · exact Or.inr b
          · exact absurd b (fun c => c.elim (fun d => nI_pos (by omega) d) (fun d => nI_ge hp (by omega) d))
          · exact absurd b (fun c => c.elim (fun d => nI_pos (by omega) d) (fun d => nI_ge hj (by omega) d))
    · unfold wpY_value
      by_cases b1 : v1 < 0
      · exact br_t b1 h
      · refine br_f b1 ?_
        by_cases b2 : 3 < v1
        · exact br_t b2 h
        · refine br_f b2 ?_
          rcases ws_where h6 v2 with z | ⟨p, hp, rfl⟩
          · exact wy_out z (br_f (by decide) h)
          · refine wy_in hp h6 (br_t rfl ?_)
            rcases ws_where h6 v3 with z | ⟨j, hj, rfl⟩
            · exact wy_out z (br_f (by decide) h)
            · rcases bad with b | b | b | b
              · exact absurd b b1
              · exact absurd b b2
              · exact absurd b (fun c => c.elim (fun d => nI_pos (by omega) d) (fun d => nI_ge hp (by omega) d))
              · exact absurd b (fun c => c.elim (fun d => nI_pos (by omega) d) (fun d => nI_ge hj (by omega) d))
  · have b1 : ¬ v1 < 0 := fun b => bad (Or.inl b)
    have b2 : ¬ 3 < v1 := fun b => bad (Or.inr (Or.inl b))
    obtain ⟨p, hp, rfl⟩ := (ws_where h6 v2).resolve_left (fun b => bad (Or.inr (Or.inr (Or.inl b))))
    obtain ⟨j, hj, rfl⟩ := (ws_where h6 v3).resolve_left (fun b => bad (Or.inr (Or.inr (Or.inr b))))
    have hk2 := hk.resolve_left (fun b => b.elim b1 b2)
    obtain ⟨r, hr, gx, gy⟩ := ws_told (H := H) (st := st) (it := it) (sw := sw) (lb := lb) hR hp hj v1 hk2
    obtain ⟨h2, h6, hL, hub, hact, hV', hH, hP⟩ := hR
    rcases hr with rfl | ⟨a, ha, rfl⟩
    · refine ⟨0, fun post h => ?_, fun post h => ?_⟩
      · unfold wpX_value
        exact gx _ (br_f (by decide) h)
      · unfold wpY_value
        exact br_f b1 (br_f b2 (wy_in hp h6 (br_t rfl (wy_in hj h6 (br_t rfl (gy _ (br_f (by decide) h)))))))
    · refine ⟨ws_last wr wn j a, fun post h => ?_, fun post h => ?_⟩
      · unfold wpX_value
        refine gx _ (br_t (nI_pos' (by omega)) (wx_cell ⟨ws_in (by omega), ?_⟩))
        rw [ws_r (by omega) vV, (hV' a j ha (by omega)).2]
        exact h
      · unfold wpY_value
        exact br_f b1 (br_f b2 (wy_in hp h6 (br_t rfl (wy_in hj h6 (br_t rfl (gy _ (br_t (nI_pos' (by omega)) (wy_valueAt (by omega) h))))))))
theorem ws_count (hR : ws_R n L w ub vV vC hV ph ew vw co nx lc mc fc rv wr wn ca rd yv ra) (v1 v2 v3 : Int32) : ∃ r, (∀ post, post r → wpX_count post ((nI n), (nI L), (nI w), (nI ub), vV, vC, hV, H, ph, st, it, sw, ew, lb, vw, co, nx, lc, mc, fc, rv) v1 v2 v3) ∧ (∀ post, post r → wpY_count post ((nI w), (nI n), (nI L), (nI ub), wr, wn, ca, H, ph, st, rd, it, sw, ew, lb, yv, ra) v1 v2 v3) := by
  have h6 := hR.2.1
  have hk := ws_kind v1
  by_cases bad : v1 < 0 ∨ 3 < v1 ∨ (v2 < 0 ∨ nI n ≤ v2) ∨ (v3 < 0 ∨ nI n ≤ v3)
  · refine ⟨-1, fun post h => ?_, fun post h => ?_⟩
    · unfold wpX_count
      rcases ws_where h6 v2 with z | ⟨p, hp, rfl⟩
      · exact wx_told_i z (br_f (by decide) h)
      · rcases ws_where h6 v3 with z | ⟨j, hj, rfl⟩
        · exact wx_told_j hp h6 z (br_f (by decide) h)
        · refine wx_told_k hp hj h6 ?_ (br_f (by decide) h)
          rcases bad with b | b | b | b
          · exact Or.inl b
          · exact Or.inr b
          · exact absurd b (fun c => c.elim (fun d => nI_pos (by omega) d) (fun d => nI_ge hp (by omega) d))
          · exact absurd b (fun c => c.elim (fun d => nI_pos (by omega) d) (fun d => nI_ge hj (by omega) d))
    · unfold wpY_count
      by_cases b1 : v1 < 0
      · exact br_t b1 h
      · refine br_f b1 ?_
        by_cases b2 : 3 < v1
        · exact br_t b2 h
        · refine br_f b2 ?_
          rcases ws_where h6 v2 with z | ⟨p, hp, rfl⟩
          · exact wy_out z (br_f (by decide) h)
          · refine wy_in hp h6 (br_t rfl ?_)
            rcases ws_where h6 v3 with z | ⟨j, hj, rfl⟩
            · exact wy_out z (br_f (by decide) h)
            · rcases bad with b | b | b | b
              · exact absurd b b1
              · exact absurd b b2
              · exact absurd b (fun c => c.elim (fun d => nI_pos (by omega) d) (fun d => nI_ge hp (by omega) d))
              · exact absurd b (fun c => c.elim (fun d => nI_pos (by omega) d) (fun d => nI_ge hj (by omega) d))
  · have b1 : ¬ v1 < 0 := fun b => bad (Or.inl b)
    have b2 : ¬ 3 < v1 := fun b => bad (Or.inr (Or.inl b))
    obtain ⟨p, hp, rfl⟩ := (ws_where h6 v2).resolve_left (fun b => bad (Or.inr (Or.inr (Or.inl b))))
    obtain ⟨j, hj, rfl⟩ := (ws_where h6 v3).resolve_left (fun b => bad (Or.inr (Or.inr (Or.inr b))))
    have hk2 := hk.resolve_left (fun b => b.elim b1 b2)
    obtain ⟨r, hr, gx, gy⟩ := ws_told (H := H) (st := st) (it := it) (sw := sw) (lb := lb) hR hp hj v1 hk2
    obtain ⟨h2, h6, hL, hub, hact, hV', hH, hP⟩ := hR
    rcases hr with rfl | ⟨a, ha, rfl⟩
    · refine ⟨-6, fun post h => ?_, fun post h => ?_⟩
      · unfold wpX_count
        exact gx _ (br_f (by decide) h)
      · unfold wpY_count
        exact br_f b1 (br_f b2 (wy_in hp h6 (br_t rfl (wy_in hj h6 (br_t rfl (gy _ (br_f (by decide) h)))))))
    · refine ⟨nI (ws_cnt wr j a), fun post h => ?_, fun post h => ?_⟩
      · unfold wpX_count
        refine gx _ (br_t (nI_pos' (by omega)) (wx_cell ⟨ws_in (by omega), ?_⟩))
        rw [ws_r (by omega) vC, (hV' a j ha (by omega)).1]
        exact h
      · unfold wpY_count
        exact br_f b1 (br_f b2 (wy_in hp h6 (br_t rfl (wy_in hj h6 (br_t rfl (gy _ (br_t (nI_pos' (by omega)) (wy_countAt (by omega) h))))))))
theorem ws_version (hR : ws_R n L w ub vV vC hV ph ew vw co nx lc mc fc rv wr wn ca rd yv ra) (v1 v2 : Int32) : ∃ r, (∀ post, post r → wpX_version post ((nI n), (nI L), (nI w), (nI ub), vV, vC, hV, H, ph, st, it, sw, ew, lb, vw, co, nx, lc, mc, fc, rv) v1 v2) ∧ (∀ post, post r → wpY_version post ((nI w), (nI n), (nI L), (nI ub), wr, wn, ca, H, ph, st, rd, it, sw, ew, lb, yv, ra) v1 v2) := by
  have h2 := hR.1
  have h6 := hR.2.1
  have hk := ws_kind v1
  rcases ws_where h6 v2 with z | ⟨p, hp, rfl⟩
  · refine ⟨-1, fun post h => ?_, fun post h => ?_⟩
    · unfold wpX_version wX_version_16
      by_cases e3 : v1 = 3
      · exact br_t e3 (wx_out z (br_t rfl (wx_told_i z h)))
      · exact br_f e3 (wx_told_i z h)
    · unfold wpY_version
      by_cases b1 : v1 < 0
      · exact br_t b1 h
      · by_cases b2 : 3 < v1
        · exact br_f b1 (br_t b2 h)
        · exact br_f b1 (br_f b2 (wy_out z (br_f (by decide) h)))
  · rcases hk with b | hk
    · have e3 : ¬ v1 = 3 := by
        intro e
        subst e
        revert b
        decide
      refine ⟨-1, fun post h => ?_, fun post h => ?_⟩
      · unfold wpX_version wX_version_16
        exact br_f e3 (wx_told_k (j := 0) hp (by omega) h6 b h)
      · unfold wpY_version
        by_cases b1 : v1 < 0
        · exact br_t b1 h
        · exact br_f b1 (br_t (b.resolve_left b1) h)
    · have b1 : ¬ v1 < 0 := by rcases hk with rfl | rfl | rfl | rfl <;> decide
      have b2 : ¬ 3 < v1 := by rcases hk with rfl | rfl | rfl | rfl <;> decide
      by_cases e3 : v1 = 3
      · refine ⟨-6, fun post h => ?_, fun post h => ?_⟩
        · unfold wpX_version
          exact br_t e3 (wx_in hp h6 (br_f (by decide) h))
        · unfold wpY_version
          exact br_f b1 (br_f b2 (wy_in hp h6 (br_t rfl (br_t e3 h))))
      · obtain ⟨r, hr, gx, gy⟩ := ws_told (H := H) (st := st) (it := it) (sw := sw) (lb := lb) hR hp (show 0 < n by omega) v1 hk
        refine ⟨r, fun post h => ?_, fun post h => ?_⟩
        · unfold wpX_version wX_version_16
          exact br_f e3 (gx _ h)
        · unfold wpY_version
          exact br_f b1 (br_f b2 (wy_in hp h6 (br_t rfl (br_f e3 (gy _ h)))))
end
