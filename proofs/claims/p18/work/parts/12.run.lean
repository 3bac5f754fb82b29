/-! run and schedule in the picture of the law -/
def ws_sub (wr : Nat → Int32) (d : Nat → Nat) (wF : Nat) : Nat → Nat → Nat → Prop
  | 0 => fun _ t => t = wF
  | m + 1 => fun i t => ws_sub wr d wF m (i + 1) t ∨ (t < wF ∧ wr t = nI (d i) ∧ ws_sub wr d wF m (i + 1) (t + 1))
theorem ws_sub_s (wr : Nat → Int32) (d : Nat → Nat) (wF m i t : Nat) : ws_sub wr d wF (m + 1) i t = (ws_sub wr d wF m (i + 1) t ∨ (t < wF ∧ wr t = nI (d i) ∧ ws_sub wr d wF m (i + 1) (t + 1))) := rfl
theorem ws_cnt_pre {wr wr' : Nat → Int32} (j : Nat) : ∀ v : Nat, (∀ t, t < v → wr' t = wr t) → ws_cnt wr' j v = ws_cnt wr j v := by
  intro v
  induction v with
  | zero => intro _; rfl
  | succ v ih =>
    intro h
    rw [ws_cnt_s, ws_cnt_s, ih (fun t ht => h t (by omega)), h v (by omega)]
theorem wq_run_lp {n L : Nat} {m : Int32} {B : Nat → Nat} {H : Nat → Int32} {p K : Nat} (hn : n ≤ 6) (hp : p < n) (hK : K ≤ 64) : ∀ (d t k : Nat) (w : Nat) (wr ph st : Nat → Int32) (u : St2), t + d = K → wq_S n L m B H w wr ph st u → st p = nI (k + t) → k + K < 2 ^ 31 →
    ∃ r w' wr' ph' st' u', wq_S n L m B H w' wr' ph' st' u' ∧ ((w' = w ∧ wr' = wr) ∨ (¬ ph p = 0 ∧ w' = w + 1 ∧ wr' = upd wr w (nI p))) ∧ (ph' p = 0 ∨ st' p = nI (k + K)) ∧
      (∀ post, post r u' → wX_run_55 post (nI p) (nI K) (d + 1) (nI t) u.1 u.2.1 u.2.2.1 u.2.2.2.1 u.2.2.2.2.1 u.2.2.2.2.2.1 u.2.2.2.2.2.2.1 u.2.2.2.2.2.2.2.1 u.2.2.2.2.2.2.2.2.1 u.2.2.2.2.2.2.2.2.2.1 u.2.2.2.2.2.2.2.2.2.2.1 u.2.2.2.2.2.2.2.2.2.2.2.1 u.2.2.2.2.2.2.2.2.2.2.2.2.1 u.2.2.2.2.2.2.2.2.2.2.2.2.2.1 u.2.2.2.2.2.2.2.2.2.2.2.2.2.2.1 u.2.2.2.2.2.2.2.2.2.2.2.2.2.2.2.1 u.2.2.2.2.2.2.2.2.2.2.2.2.2.2.2.2.1 u.2.2.2.2.2.2.2.2.2.2.2.2.2.2.2.2.2.1 u.2.2.2.2.2.2.2.2.2.2.2.2.2.2.2.2.2.2.1 u.2.2.2.2.2.2.2.2.2.2.2.2.2.2.2.2.2.2.2.1 u.2.2.2.2.2.2.2.2.2.2.2.2.2.2.2.2.2.2.2.2) := by
  intro d
  induction d with
  | zero =>
    intro t k w wr ph st u ht hS hst hkK
    refine ⟨nI t, w, wr, ph, st, u, hS, Or.inl ⟨rfl, rfl⟩, Or.inr (by rw [hst, show t = K by omega]), fun post h => ?_⟩
    obtain ⟨ub, vV, vC, hV, it, sw, ew, lb, vw, co, nx, lc, mc, fc, rv, wn, rd, ra, rfl, hR⟩ := hS
    exact br_t (nI_le (by omega) (by omega)) h
  | succ d ih =>
    intro t k w wr ph st u ht hS hst hkK
    have hp6 : p < 6 := by omega
    by_cases e0 : ph p = 0
    · refine ⟨nI t, w, wr, ph, st, u, hS, Or.inl ⟨rfl, rfl⟩, Or.inl e0, fun post h => ?_⟩
      obtain ⟨ub, vV, vC, hV, it, sw, ew, lb, vw, co, nx, lc, mc, fc, rv, wn, rd, ra, rfl, hR⟩ := hS
      exact br_f (nI_ge (by omega) (by omega)) ⟨ws_in hp6, br_t (ws_t (f := ph) (by omega) e0) h⟩
    · obtain ⟨w1, wr1, ph1, st1, u1, hS1, hT, sx⟩ := wq_step hS hp e0
      obtain ⟨r, w', wr', ph', st', u', hS', hw, hi, gx⟩ := ih (t + 1) k w1 wr1 ph1 st1 u1 (by omega) hS1 (by rw [hT.2.2, pk_us, hst, nI_1]; rfl) hkK
      refine ⟨r, w', wr', ph', st', u', hS', ?_, hi, fun post h => ?_⟩
      · rcases hT.1 with ⟨rfl, rfl⟩ | ⟨rfl, rfl, e1⟩
        · rcases hw with z | z
          · exact Or.inl z
          · exact Or.inr ⟨e0, z.2⟩
        · rcases hw with z | z
          · exact Or.inr ⟨e0, z⟩
          · exact absurd e1 z.1
      · have g := gx post h
        obtain ⟨ub, vV, vC, hV, it, sw, ew, lb, vw, co, nx, lc, mc, fc, rv, wn, rd, ra, rfl, hR⟩ := hS
        obtain ⟨ub1, vV1, vC1, hV1, it1, sw1, ew1, lb1, vw1, co1, nx1, lc1, mc1, fc1, rv1, wn1, rd1, ra1, rfl, hR1⟩ := hS1
        refine br_f (nI_ge (by omega) (by omega)) ⟨ws_in hp6, br_f (ws_nt (f := ph) (by omega) e0) (sx _ ?_)⟩
        exact nm_r (nI_1 t) g
theorem wq_st {n L : Nat} {m : Int32} {B : Nat → Nat} {H : Nat → Int32} {w : Nat} {wr ph st : Nat → Int32} {u : St2} {p : Nat} (h : wq_S n L m B H w wr ph st u) (hp : p < n) : ∃ k, st p = nI k ∧ k ≤ 43 := by
  obtain ⟨ub, vV, vC, hV, it, sw, ew, lb, vw, co, nx, lc, mc, fc, rv, wn, rd, ra, rfl, hR⟩ := h
  obtain ⟨h2, h6, hL, hub, hact, hV', hH, hLg, hP, hE⟩ := hR
  obtain ⟨r, t, k, b1, b2, b3, b4, b5, b6, b7, _⟩ := hE p hp
  refine ⟨k, b5, ?_⟩
  rcases ws_n5 h2 h6 with rfl | rfl | rfl | rfl | rfl <;> omega
/-- run of k steps at most, whoever it is for: at most one write, by that process; 64 steps are always enough -/
theorem wq_run {n L : Nat} {m : Int32} {B : Nat → Nat} {H : Nat → Int32} {w : Nat} {wr ph st : Nat → Int32} {u : St2} {p kk : Nat} (h : wq_S n L m B H w wr ph st u) (hn : n ≤ 6) (hp : p < n) (hk1 : 1 ≤ kk) (hk : kk ≤ 64) :
    ∃ r w' wr' ph' st' u', wq_S n L m B H w' wr' ph' st' u' ∧ ((w' = w ∧ wr' = wr) ∨ (w' = w + 1 ∧ wr' = upd wr w (nI p))) ∧ (H p = 0 → ¬ ph p = 0 → kk = 64 → ph' p = 0) ∧ (∀ post, post r u' → wpX_run post u (nI p) (nI kk)) := by
  have hp6 : p < 6 := by omega
  have k1 : (1 : Int32) ≤ nI kk := nI_le (a := 1) hk1 (by omega)
  have h0 := h
  obtain ⟨k, ek, hk43⟩ := wq_st h hp
  obtain ⟨ub, vV, vC, hV, it, sw, ew, lb, vw, co, nx, lc, mc, fc, rv, wn, rd, ra, rfl, hR⟩ := h
  by_cases eh : H p = 0
  · by_cases e0 : ph p = 0
    · refine ⟨-5, w, wr, ph, st, _, h0, Or.inl ⟨rfl, rfl⟩, fun _ z => absurd e0 z, fun post h => ?_⟩
      unfold wpX_run
      exact wx_in hp hn (br_f (by decide) (br_t k1 ⟨ws_in hp6, br_t (ws_t (f := H) (by omega) eh) ⟨ws_in hp6, br_t (ws_t (f := ph) (by omega) e0) h⟩⟩))
    · obtain ⟨r, w', wr', ph', st', u', hS', hw, hi, gx⟩ := wq_run_lp hn hp hk kk 0 k w wr ph st _ (by omega) h0 ek (by omega)
      refine ⟨r, w', wr', ph', st', u', hS', hw.elim Or.inl (fun z => Or.inr z.2), fun _ _ e64 => ?_, fun post h => ?_⟩
      · rcases hi with z | z
        · exact z
        · obtain ⟨k', ek', hk'⟩ := wq_st hS' hp
          have := (nI_eq (by omega) (by omega)).mp (z.symm.trans ek')
          omega
      · unfold wpX_run
        exact wx_in hp hn (br_f (by decide) (br_t k1 ⟨ws_in hp6, br_t (ws_t (f := H) (by omega) eh) ⟨ws_in hp6, br_f (ws_nt (f := ph) (by omega) e0) (br_t (nI_le (b := 64) hk (by decide)) ⟨_, gx post h⟩)⟩⟩))
  · refine ⟨-2, w, wr, ph, st, _, h0, Or.inl ⟨rfl, rfl⟩, fun z => absurd z eh, fun post h => ?_⟩
    unfold wpX_run
    exact wx_in hp hn (br_f (by decide) (br_t k1 ⟨ws_in hp6, br_f (ws_nt (f := H) (by omega) eh) h⟩))
def wq_dg (x : Int32) (i : Nat) : Nat := x.toBitVec.toNat / 16 ^ i % 16
theorem wq_sh (i : Nat) (hi : i < 8) : (((nI i * 4).toUInt32 &&& Int32.toUInt32 31).toBitVec % 32).toNat = 4 * i := by
  have h8 : i = 0 ∨ i = 1 ∨ i = 2 ∨ i = 3 ∨ i = 4 ∨ i = 5 ∨ i = 6 ∨ i = 7 := by omega
  rcases h8 with rfl | rfl | rfl | rfl | rfl | rfl | rfl | rfl <;> decide
theorem wq_dig (x : Int32) (i : Nat) (hi : i < 8) : ((x.toUInt32 >>> ((nI i * 4).toUInt32 &&& Int32.toUInt32 31)).toInt32) &&& 15 = nI (wq_dg x i) := by
  rw [pk_and _ (m := 15) 4 (by decide), pk_ushr x (nI i * 4) (4 * i) (wq_sh i hi)]
  unfold wq_dg
  rw [show (16 : Nat) = 2 ^ 4 from rfl, ← Nat.pow_mul]
theorem wq_dg_lt (x : Int32) (i : Nat) : wq_dg x i < 16 := Nat.mod_lt _ (by decide)
theorem wq_sch_lp {n L : Nat} {m : Int32} {B : Nat → Nat} {H : Nat → Int32} (x : Int32) (hn : n ≤ 6) : ∀ (d t : Nat) (dn : Int32) (w : Nat) (wr ph st : Nat → Int32) (u : St2), t + d = 8 → wq_S n L m B H w wr ph st u →
    ∃ r w' wr' ph' st' u', wq_S n L m B H w' wr' ph' st' u' ∧ ws_sub wr' (wq_dg x) w' d t w ∧ w ≤ w' ∧ (∀ s, s < w → wr' s = wr s) ∧
      (∀ j, j < n → (ph j = 0 → ws_cnt wr' j w' = ws_cnt wr' j w) ∧ ws_cnt wr' j w' ≤ ws_cnt wr' j w + 1) ∧
      (∀ post, post r u' → wX_schedule_4 post x (d + 1) dn (nI t) u.1 u.2.1 u.2.2.1 u.2.2.2.1 u.2.2.2.2.1 u.2.2.2.2.2.1 u.2.2.2.2.2.2.1 u.2.2.2.2.2.2.2.1 u.2.2.2.2.2.2.2.2.1 u.2.2.2.2.2.2.2.2.2.1 u.2.2.2.2.2.2.2.2.2.2.1 u.2.2.2.2.2.2.2.2.2.2.2.1 u.2.2.2.2.2.2.2.2.2.2.2.2.1 u.2.2.2.2.2.2.2.2.2.2.2.2.2.1 u.2.2.2.2.2.2.2.2.2.2.2.2.2.2.1 u.2.2.2.2.2.2.2.2.2.2.2.2.2.2.2.1 u.2.2.2.2.2.2.2.2.2.2.2.2.2.2.2.2.1 u.2.2.2.2.2.2.2.2.2.2.2.2.2.2.2.2.2.1 u.2.2.2.2.2.2.2.2.2.2.2.2.2.2.2.2.2.2.1 u.2.2.2.2.2.2.2.2.2.2.2.2.2.2.2.2.2.2.2.1 u.2.2.2.2.2.2.2.2.2.2.2.2.2.2.2.2.2.2.2.2) := by
  intro d
  induction d with
  | zero =>
    intro t dn w wr ph st u ht hS
    refine ⟨dn, w, wr, ph, st, u, hS, rfl, Nat.le_refl w, fun _ _ => rfl, fun j _ => ⟨fun _ => rfl, by omega⟩, fun post h => ?_⟩
    obtain ⟨ub, vV, vC, hV, it, sw, ew, lb, vw, co, nx, lc, mc, fc, rv, wn, rd, ra, rfl, hR⟩ := hS
    exact br_t (nI_le (a := 8) (by omega) (by omega)) h
  | succ d ih =>
    intro t dn w wr ph st u ht hS
    have ep := wq_dig x t (by omega)
    have hp16 := wq_dg_lt x t
    generalize hpp : wq_dg x t = p at ep hp16
    by_cases c : n ≤ p ∨ ¬ H p = 0 ∨ ph p = 0
    · obtain ⟨r, w', wr', ph', st', u', hS', hsub, hle, hpre, hcn, gx⟩ := ih (t + 1) dn w wr ph st u (by omega) hS
      refine ⟨r, w', wr', ph', st', u', hS', Or.inl hsub, hle, hpre, hcn, fun post h => ?_⟩
      have g := gx post h
      obtain ⟨ub, vV, vC, hV, it, sw, ew, lb, vw, co, nx, lc, mc, fc, rv, wn, rd, ra, rfl, hR⟩ := hS
      refine br_f (nI_ge (b := 8) (by omega) (by omega)) (nm_r ep ?_)
      exact wx_can_f hn (by omega) c (br_t rfl (nm_r (nI_1 t) g))
    · have hpn : p < n := by
        by_cases z : n ≤ p
        · exact absurd (Or.inl z) c
        · omega
      have eh : H p = 0 := by
        by_cases z : H p = 0
        · exact z
        · exact absurd (Or.inr (Or.inl z)) c
      have e0 : ¬ ph p = 0 := fun z => c (Or.inr (Or.inr z))
      obtain ⟨w1, wr1, ph1, st1, u1, hS1, hT, sx⟩ := wq_step hS hpn e0
      obtain ⟨r, w', wr', ph', st', u', hS', hsub, hle, hpre, hcn, gx⟩ := ih (t + 1) (dn + 1) w1 wr1 ph1 st1 u1 (by omega) hS1
      refine ⟨r, w', wr', ph', st', u', hS', ?_, ?_, ?_, ?_, fun post h => ?_⟩
      · rw [ws_sub_s, hpp]
        rcases hT.1 with ⟨rfl, rfl⟩ | ⟨rfl, rfl, e1⟩
        · exact Or.inl hsub
        · exact Or.inr ⟨by omega, by rw [hpre w (by omega), pk_us], hsub⟩
      · rcases hT.1 with ⟨rfl, rfl⟩ | ⟨rfl, rfl, e1⟩ <;> omega
      · intro s hs
        rcases hT.1 with ⟨rfl, rfl⟩ | ⟨rfl, rfl, e1⟩
        · exact hpre s hs
        · rw [hpre s (by omega), pk_un (show s ≠ w by omega)]
      · intro j hj
        obtain ⟨q1, q2⟩ := hcn j hj
        rcases hT.1 with ⟨rfl, rfl⟩ | ⟨rfl, rfl, e1⟩
        · refine ⟨fun z => q1 ?_, q2⟩
          by_cases e : j = p
          · rw [e] at z
            exact absurd z e0
          · rw [hT.2.1 j e]
            exact z
        · have ew : wr' w = nI p := by rw [hpre w (by omega), pk_us]
          rw [ws_cnt_s] at q1 q2
          by_cases e : j = p
          · subst e
            rw [if_pos ew] at q1 q2
            have := q1 e1
            exact ⟨fun z => absurd z e0, by omega⟩
          · rw [if_neg (fun z => e ((nI_eq (by omega) (by omega)).mp (ew.symm.trans z)).symm)] at q1 q2
            exact ⟨fun z => q1 (by rw [hT.2.1 j e]; exact z), q2⟩
      · have g := gx post h
        obtain ⟨ub, vV, vC, hV, it, sw, ew, lb, vw, co, nx, lc, mc, fc, rv, wn, rd, ra, rfl, hR⟩ := hS
        obtain ⟨ub1, vV1, vC1, hV1, it1, sw1, ew1, lb1, vw1, co1, nx1, lc1, mc1, fc1, rv1, wn1, rd1, ra1, rfl, hR1⟩ := hS1
        refine br_f (nI_ge (b := 8) (by omega) (by omega)) (nm_r ep ?_)
        refine wx_can_t hn hpn eh e0 (br_f (by decide) (sx _ ?_))
        exact nm_e (nm_r (nI_1 t) g)
theorem wq_sch {n L : Nat} {m : Int32} {B : Nat → Nat} {H : Nat → Int32} {w : Nat} {wr ph st : Nat → Int32} {u : St2} (x : Int32) (hn : n ≤ 6) (hS : wq_S n L m B H w wr ph st u) :
    ∃ r w' wr' ph' st' u', wq_S n L m B H w' wr' ph' st' u' ∧ ws_sub wr' (wq_dg x) w' 8 0 w ∧ w ≤ w' ∧ (∀ s, s < w → wr' s = wr s) ∧ (∀ j, j < n → ws_cnt wr' j w' ≤ ws_cnt wr' j w + 1) ∧ (∀ post, post r u' → wpX_schedule post u x) := by
  obtain ⟨r, w', wr', ph', st', u', hS', hsub, hle, hpre, hcn, gx⟩ := wq_sch_lp x hn 8 0 0 w wr ph st u rfl hS
  refine ⟨r, w', wr', ph', st', u', hS', hsub, hle, hpre, fun j hj => (hcn j hj).2, fun post h => ?_⟩
  have g := gx post h
  obtain ⟨ub, vV, vC, hV, it, sw, ew, lb, vw, co, nx, lc, mc, fc, rv, wn, rd, ra, rfl, hR⟩ := hS
  exact ⟨_, g⟩
