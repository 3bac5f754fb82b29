/-! the law's own log after a round: each new entry is found, in its order -/
theorem ws_sub_le {wr : Nat → Int32} {d : Nat → Nat} {wF : Nat} : ∀ m i t : Nat, ws_sub wr d wF m i t → t ≤ wF := by
  intro m
  induction m with
  | zero => intro i t h; exact Nat.le_of_eq h
  | succ m ih =>
    intro i t h
    rcases h with h | ⟨h, _⟩
    · exact ih _ _ h
    · omega
theorem ws_sub_cnt {wr : Nat → Int32} {d : Nat → Nat} {wF j : Nat} (hd : ∀ i, d i < 16) (hj : j < 16) : ∀ m i t : Nat, ws_sub wr d wF m i t → (∀ a, i ≤ a → a < i + m → d a ≠ j) → ws_cnt wr j wF = ws_cnt wr j t := by
  intro m
  induction m with
  | zero => intro i t h _; rw [show t = wF from h]
  | succ m ih =>
    intro i t h hn
    have hn' : ∀ a, i + 1 ≤ a → a < i + 1 + m → d a ≠ j := fun a a1 a2 => hn a (by omega) (by omega)
    rcases h with h | ⟨h1, h2, h3⟩
    · exact ih _ _ h hn'
    · have h4 := hd i
      rw [ih _ _ h3 hn', ws_cnt_s, if_neg]
      intro z
      exact hn i (by omega) (by omega) ((nI_eq (by omega) (by omega)).mp (h2.symm.trans z))
theorem ws_sub_drop {wr : Nat → Int32} {d : Nat → Nat} {wF : Nat} : ∀ m i t : Nat, ws_sub wr d wF m i t → t < wF → ws_sub wr d wF m i (t + 1) := by
  intro m
  induction m with
  | zero =>
    intro i t h ht
    have : t = wF := h
    omega
  | succ m ih =>
    intro i t h ht
    rcases h with h | ⟨h1, h2, h3⟩
    · exact Or.inl (ih _ _ h ht)
    · exact Or.inl h3
theorem ws_sub_first {wr : Nat → Int32} {d : Nat → Nat} {wF j : Nat} (hd : ∀ i, d i < 16) (hj : j < 16) (hC : ∀ a b c, a < b → b < c → c < 8 → d a = d c → d b = d a) : ∀ m i t : Nat, i + 1 + m = 8 → d i = j → ws_sub wr d wF m (i + 1) t → ws_cnt wr j t < ws_cnt wr j wF → wr t = nI j ∧ t < wF := by
  intro m
  induction m with
  | zero =>
    intro i t _ _ h hc
    rw [show t = wF from h] at hc
    omega
  | succ m ih =>
    intro i t hi e h hc
    by_cases z : d (i + 1) = j
    · rcases h with h | ⟨h1, h2, h3⟩
      · exact ih (i + 1) t (by omega) z h hc
      · rw [z] at h2
        exact ⟨h2, h1⟩
    · have := ws_sub_cnt hd hj (m + 1) (i + 1) t h (fun a a1 a2 y => by
        by_cases q : a = i + 1
        · rw [q] at y
          exact z y
        · exact z ((hC i (i + 1) a (by omega) (by omega) (by omega) (e.trans y.symm)).trans e))
      omega
def wq_Dt (wr : Nat → Int32) (d : Nat → Nat) (wF i t : Nat) : Prop := ws_sub wr d wF (8 - i) i t ∧ (∀ a, i = a + 1 → i < 8 → d i = d a → ws_cnt wr (d i) wF = ws_cnt wr (d i) t)
theorem wq_Dt_skip {wr : Nat → Int32} {d : Nat → Nat} {wF i t : Nat} (hd : ∀ i, d i < 16) (hi : i < 8) (h : wq_Dt wr d wF i t) (hE : ws_cnt wr (d i) wF = ws_cnt wr (d i) t) : wq_Dt wr d wF (i + 1) t := by
  obtain ⟨h1, h2⟩ := h
  rw [show 8 - i = (8 - (i + 1)) + 1 by omega] at h1
  refine ⟨?_, fun a ea _ e => ?_⟩
  · rcases h1 with h1 | ⟨a1, a2, a3⟩
    · exact h1
    · have m := ws_cnt_mon wr (d i) (show t + 1 ≤ wF by omega)
      rw [ws_cnt_s, if_pos a2] at m
      omega
  · have : a = i := by omega
    rw [this] at e
    rw [e]
    exact hE
theorem wq_Dt_take {wr : Nat → Int32} {d : Nat → Nat} {wF w0 i t : Nat} (hd : ∀ i, d i < 16) (hC : ∀ a b c, a < b → b < c → c < 8 → d a = d c → d b = d a) (hi : i < 8) (h : wq_Dt wr d wF i t) (h0 : w0 ≤ t) (h1 : ws_cnt wr (d i) wF ≤ ws_cnt wr (d i) w0 + 1) (hc : ws_cnt wr (d i) t < ws_cnt wr (d i) wF) :
    wr t = nI (d i) ∧ t < wF ∧ wq_Dt wr d wF (i + 1) (t + 1) := by
  obtain ⟨s1, s2⟩ := h
  rw [show 8 - i = (8 - (i + 1)) + 1 by omega] at s1
  have key : wr t = nI (d i) ∧ t < wF ∧ ws_sub wr d wF (8 - (i + 1)) (i + 1) (t + 1) := by
    rcases s1 with s | ⟨a1, a2, a3⟩
    · obtain ⟨b1, b2⟩ := ws_sub_first hd (hd i) hC (8 - (i + 1)) i t (by omega) rfl s hc
      exact ⟨b1, b2, ws_sub_drop _ _ _ s b2⟩
    · exact ⟨a2, a1, a3⟩
  refine ⟨key.1, key.2.1, key.2.2, fun a ea _ e => ?_⟩
  have : a = i := by omega
  rw [this] at e
  rw [e]
  have m1 := ws_cnt_mon wr (d i) h0
  have m2 := ws_cnt_mon wr (d i) (show t + 1 ≤ wF by omega)
  have e2 : ws_cnt wr (d i) (t + 1) = ws_cnt wr (d i) t + 1 := by rw [ws_cnt_s, if_pos key.1]
  omega
theorem wq_out_cnt {n w : Nat} {m : Int32} {wr wn : Nat → Int32} (h : wq_L n w m wr wn) (hn : n ≤ 6) {j : Nat} (hj : n ≤ j) (hj2 : j < 16) : ∀ v : Nat, v ≤ w → ws_cnt wr j v = 0 := by
  intro v
  induction v with
  | zero => intro _; rfl
  | succ v ih =>
    intro hv
    obtain ⟨i, hi, e, _⟩ := h v (by omega)
    rw [ws_cnt_s, if_neg]
    · exact ih (by omega)
    · intro z
      have := (nI_eq (by omega) (by omega)).mp (e.symm.trans z)
      omega
def wq_pv (d : Nat → Nat) : Nat → Int32
  | 0 => -1
  | i + 1 => nI (d i)
section
variable {n L w ub : Nat} {m : Int32} {B : Nat → Nat} {vV vC hV H ph st it sw ew lb vw co nx lc mc fc rv wr wn rd ra : Nat → Int32} {p : Nat}
theorem wq_det {post : Int32 → Prop} {N : Nat} {xs : Nat → Int32} {J : Int64 → Int64 → Int64 → Int32 → Int32 → Int32 → Int32 → Int32 → Int32 → Int32 → Int32 → (Nat → Int32) → (Nat → Int32) → (Nat → Int32) → (Nat → Int32) → (Nat → Int32) → (Nat → Int32) → (Nat → Int32) → (Nat → Int32) → (Nat → Int32) → (Nat → Int32) → (Nat → Int32) → (Nat → Int32) → (Nat → Int32) → (Nat → Int32) → (Nat → Int32) → (Nat → Int32) → (Nat → Int32) → Prop} {x4 x13 x14 x15 x16 x : Int32} {kc ks w0 : Nat}
    (hR : wq_R n L w ub m B vV vC hV ph st it sw ew vw co nx lc mc fc rv wr wn rd ra)
    (hC : ∀ a b c, a < b → b < c → c < 8 → wq_dg x a = wq_dg x c → wq_dg x b = wq_dg x a)
    (h1 : ∀ j, j < n → ws_cnt wr j w ≤ ws_cnt wr j w0 + 1)
    (hK : ∀ h0' h1' h2' : Int64, wq_log h0' h1' h2' wr w → ∃ fu : Nat, wL_law_726 post N xs J (nI n) m x4 h0' h1' h2' (nI w) x13 x14 x15 x16 kc ks (nI n) (nI L) (nI w) (nI ub) vV vC hV H ph st it sw ew lb vw co nx lc mc fc rv fu 0) :
    ∀ (d i t : Nat) (h0 h1' h2 : Int64), i + d = 8 → w0 ≤ t → wq_log h0 h1' h2 wr t → wq_Dt wr (wq_dg x) w i t →
    wL_law_578 post N xs J (nI n) m x4 x13 x14 x15 x16 x kc ks (nI n) (nI L) (nI w) (nI ub) vV vC hV H ph st it sw ew lb vw co nx lc mc fc rv (d + 1) h0 h1' h2 (nI t) (wq_pv (wq_dg x) i) (nI i) := by
  intro d
  have hd := wq_dg_lt x
  have hR0 := hR
  obtain ⟨h2n, h6, hL, hub, hact, hV', hH, hLg, hP, hE⟩ := hR
  have hw63 : w ≤ 63 := by omega
  induction d with
  | zero =>
    intro i t h0 h1' h2 hi hw0 hl hD
    have ei : i = 8 := by omega
    subst ei
    have et : t = w := hD.1
    subst et
    refine br_t (nI_le (a := 8) (b := 8) (by omega) (by omega)) (wq_ver2 hR0 (br_t rfl ?_))
    exact hK h0 h1' h2 hl
  | succ d ih =>
    intro i t h0 h1' h2 hi hw0 hl hD
    have hi8 : i < 8 := by omega
    have htw : t ≤ w := ws_sub_le _ _ _ hD.1
    have ep : ((x.toUInt32 >>> ((4 * nI i).toUInt32 &&& Int32.toUInt32 31)).toInt32) &&& 15 = nI (wq_dg x i) := by
      rw [Int32.mul_comm 4 (nI i)]
      exact wq_dig x i hi8
    have hdi := hd i
    have skip : ws_cnt wr (wq_dg x i) w = ws_cnt wr (wq_dg x i) t → wL_law_578 post N xs J (nI n) m x4 x13 x14 x15 x16 x kc ks (nI n) (nI L) (nI w) (nI ub) vV vC hV H ph st it sw ew lb vw co nx lc mc fc rv (d + 1) h0 h1' h2 (nI t) (nI (wq_dg x i)) (nI (i + 1)) :=
      fun z => ih (i + 1) t h0 h1' h2 (by omega) hw0 hl (wq_Dt_skip hd hi8 hD z)
    refine br_f (nI_ge (b := 8) hi8 (by omega)) (nm_r ep ?_)
    by_cases c1 : n ≤ wq_dg x i
    · exact br_t (nI_le c1 (by omega)) (nm_r (nI_1 i) (skip (by rw [wq_out_cnt hLg h6 c1 hdi w (Nat.le_refl w), wq_out_cnt hLg h6 c1 hdi t htw])))
    · refine br_f (nI_ge (by omega) (by omega)) ?_
      by_cases c2 : nI (wq_dg x i) = wq_pv (wq_dg x) i
      · refine br_t c2 (nm_r (nI_1 i) (skip ?_))
        cases i with
        | zero => exact absurd c2 (by
            show ¬ nI (wq_dg x 0) = -1
            intro z
            have q := congrArg Int32.toInt z
            rw [nI_toInt (by omega), show (-1 : Int32).toInt = -1 from by decide] at q
            omega)
        | succ a =>
          have hda := hd a
          have e := (nI_eq (by omega) (by omega)).mp (show nI (wq_dg x (a + 1)) = nI (wq_dg x a) from c2)
          exact hD.2 a rfl hi8 e
      · refine br_f c2 ?_
        by_cases c3 : 63 ≤ t
        · exact br_t (nI_le (a := 63) c3 (by omega)) (nm_r (nI_1 i) (skip (by rw [show t = w by omega])))
        · refine br_f (nI_ge (b := 63) (by omega) (by omega)) (wq_cnt2 hR0 (by omega) (wq_cntw hl (by omega) (Nat.le_refl t) (by omega) ?_))
          have q1 := ws_cnt_le wr (wq_dg x i) w
          have q2 := ws_cnt_le wr (wq_dg x i) t
          have q3 := ws_cnt_mon wr (wq_dg x i) htw
          refine pk_le (ws_cnt wr (wq_dg x i) w) (ws_cnt wr (wq_dg x i) t) (fun z => nm_r (nI_1 i) (skip (by omega))) (fun z => ⟨by decide, ?_⟩)
          obtain ⟨k1, k2, k3⟩ := wq_Dt_take hd hC hi8 hD hw0 (h1 _ (by omega)) z
          have lg := wq_log_put (x := lN (wq_dg x i) <<< ((3 * (nI t - nI t / 21 * 21)).toInt64 &&& 63)) hl (by omega) (by omega) k1 rfl
          refine nm_r (e' := lN (wq_dg x i) <<< ((3 * (nI t - nI t / 21 * 21)).toInt64 &&& 63)) (by rw [nI_l (by omega)]) ?_
          by_cases b1 : t < 21
          · rw [if_pos b1, if_pos b1, if_pos (show t < 42 by omega)] at lg
            exact br_f (nI_ge (b := 21) b1 (by omega)) (nm_e (nm_r (nI_1 t) (nm_r (nI_1 i) (ih (i + 1) (t + 1) _ _ _ (by omega) (by omega) lg k3))))
          · rw [if_neg b1, if_neg b1] at lg
            refine br_t (nI_le (a := 21) (by omega) (by omega)) ?_
            by_cases b2 : t < 42
            · rw [if_pos b2, if_pos b2] at lg
              exact br_f (nI_ge (b := 42) b2 (by omega)) (nm_e (nm_r (nI_1 t) (nm_r (nI_1 i) (ih (i + 1) (t + 1) _ _ _ (by omega) (by omega) lg k3))))
            · rw [if_neg b2, if_neg b2] at lg
              exact br_t (nI_le (a := 42) (by omega) (by omega)) (nm_e (nm_r (nI_1 t) (nm_r (nI_1 i) (ih (i + 1) (t + 1) _ _ _ (by omega) (by omega) lg k3))))
end
