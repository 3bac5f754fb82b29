/-! the law's own functions: cell, mix, val, and cnt over the packed log -/
theorem wq_cell {xs : Nat → Int32} {L a : Nat} (hL : L ≤ 260) (ha : a < 2 ^ 31) : ∃ r : Int32, ∀ post : Int32 → Prop, post r → wpL_cell post L xs () (nI a) := by
  by_cases z : L ≤ a
  · exact ⟨0, fun post h => br_t (nI_le z ha) h⟩
  · exact ⟨xs (nI a).toNatClampNeg, fun post h => br_f (nI_ge (by omega) (by omega)) ⟨vp_in_nI (by omega) (by omega), h⟩⟩
theorem wq_mixw {post : Int32 → Prop} {c k : Int32} (h : post (wq_mx c k)) : wpL_mix post () c k := nm_e (nm_e (nm_e (nm_e h)))
theorem wq_mx_n (c k : Int32) : ∃ a : Nat, a < 2 ^ 31 ∧ wq_mx c k = nI a := pk_andE _ (m := 2147483647) 31 (by decide)
theorem wq_cm {xs : Nat → Int32} {L a : Nat} (hL : L ≤ 260) (ha : a < 2 ^ 31) : ∃ x : Nat, x < 2 ^ 31 ∧ ∀ post : Int32 → Prop, post (nI x) → ∀ k : Int32, k = nI a → wpL_cell (fun r => wpL_mix post () r k) L xs () (nI a) := by
  obtain ⟨r, hr⟩ := wq_cell (xs := xs) (L := L) hL ha
  obtain ⟨x, hx, ex⟩ := wq_mx_n r (nI a)
  refine ⟨x, hx, fun post h k hk => hr _ ?_⟩
  rw [hk]
  refine wq_mixw ?_
  rw [ex]
  exact h
theorem wq_valw {post : Int32 → Prop} {m j c : Int32} (h : post (wq_vI m j c)) : wpL_val post () m j c := by
  unfold wq_vI at h
  by_cases h0 : c = 0
  · rw [if_pos h0] at h
    exact br_t h0 h
  · rw [if_neg h0] at h
    by_cases m0 : m = 0
    · rw [if_pos m0] at h
      exact br_f h0 (br_t m0 h)
    · rw [if_neg m0] at h
      by_cases m1 : m = 1
      · rw [if_pos m1] at h
        exact br_f h0 (br_f m0 (br_t m1 h))
      · rw [if_neg m1] at h
        by_cases m2 : m = 2
        · rw [if_pos m2] at h
          exact br_f h0 (br_f m0 (br_f m1 (br_t m2 h)))
        · rw [if_neg m2] at h
          exact br_f h0 (br_f m0 (br_f m1 (br_f m2 (wq_mixw h))))
def wq_w (h : Int64) (k : Nat) (f : Nat → Nat) : Prop := ∃ G : Nat, h = lN G ∧ G < 8 ^ k ∧ ∀ i, i < k → G / 8 ^ i % 8 = f i
theorem wq_8 (k : Nat) : 2 ^ (3 * k) = 8 ^ k := by rw [Nat.pow_mul]
theorem wq_8lt (k : Nat) (hk : k ≤ 21) : 8 ^ k ≤ 2 ^ 63 := by
  rw [← wq_8]
  exact Nat.pow_le_pow_right (by decide) (by omega)
theorem wq_w_get {h : Int64} {k i : Nat} {f : Nat → Nat} (hk : k ≤ 21) (hi : i < k) (H : wq_w h k f) : ((h.toUInt64 >>> ((nI (3 * i)).toInt64.toUInt64 &&& Int64.toUInt64 63)).toInt64) &&& 7 = lN (f i) := by
  obtain ⟨G, rfl, hG, hd⟩ := H
  have h8 := wq_8lt k hk
  have hG2 : G < 2 ^ 64 := by omega
  rw [wb_shr hG2 (by omega), wq_8, show (7 : Int64) = lN (2 ^ 3 - 1) from rfl, wb_mask (Nat.lt_of_le_of_lt (Nat.div_le_self _ _) hG2) (by decide), ← hd i hi]
theorem wq_dig_lo {G d k i : Nat} (hi : i < k) : (G + d * 8 ^ k) / 8 ^ i % 8 = G / 8 ^ i % 8 := by
  have e : d * 8 ^ k = (d * 8 ^ (k - i - 1) * 8) * 8 ^ i := by
    rw [Nat.mul_assoc, Nat.mul_assoc, ← Nat.pow_succ', ← Nat.pow_add]
    congr 2
    omega
  rw [e, Nat.add_mul_div_right _ _ (Nat.pow_pos (by decide)), Nat.add_mul_mod_self_right]
theorem wq_dig_at {G d k : Nat} (hG : G < 8 ^ k) (hd : d < 8) : (G + d * 8 ^ k) / 8 ^ k % 8 = d := by
  rw [Nat.add_mul_div_right _ _ (Nat.pow_pos (by decide)), Nat.div_eq_of_lt hG, Nat.zero_add, Nat.mod_eq_of_lt hd]
theorem wq_w_put {h : Int64} {k d : Nat} {f : Nat → Nat} (hk : k < 21) (hd : d < 8) (ef : f k = d) (H : wq_w h k f) : wq_w (h ||| (lN d <<< ((nI (3 * k)).toInt64 &&& 63))) (k + 1) f := by
  obtain ⟨G, rfl, hG, hf⟩ := H
  have h8 := wq_8lt (k + 1) (by omega)
  rw [Nat.pow_succ] at h8
  have hD : d * 8 ^ k ≤ 7 * 8 ^ k := Nat.mul_le_mul_right _ (by omega)
  rw [wb_shl d (by omega), wq_8, g_or' (wq_8 k) hG (by omega)]
  refine ⟨_, rfl, by rw [Nat.pow_succ]; omega, fun i hi => ?_⟩
  by_cases e : i = k
  · rw [e, wq_dig_at hG hd]
    exact ef.symm
  · rw [wq_dig_lo (by omega)]
    exact hf i (by omega)
/-- the packed log of the first w writes -/
def wq_log (h0 h1 h2 : Int64) (wr : Nat → Int32) (w : Nat) : Prop := ∃ W : Nat → Nat, (∀ t, t < w → wr t = nI (W t) ∧ W t < 8) ∧
  wq_w h0 (if w < 21 then w else 21) W ∧ wq_w h1 (if w < 21 then 0 else if w < 42 then w - 21 else 21) (fun i => W (21 + i)) ∧ wq_w h2 (if w < 42 then 0 else if w < 63 then w - 42 else 21) (fun i => W (42 + i))
theorem wq_log_0 (wr : Nat → Int32) : wq_log 0 0 0 wr 0 :=
  ⟨fun _ => 0, fun t ht => by omega, ⟨0, rfl, by decide, fun i hi => absurd (show i < 0 from hi) (Nat.not_lt_zero i)⟩, ⟨0, rfl, by decide, fun i hi => absurd (show i < 0 from hi) (Nat.not_lt_zero i)⟩, ⟨0, rfl, by decide, fun i hi => absurd (show i < 0 from hi) (Nat.not_lt_zero i)⟩⟩
theorem wq_w_ext {h : Int64} {k : Nat} {f g : Nat → Nat} (e : ∀ i, i < k → g i = f i) (H : wq_w h k f) : wq_w h k g := by
  obtain ⟨G, e1, e2, e3⟩ := H
  exact ⟨G, e1, e2, fun i hi => by rw [e i hi]; exact e3 i hi⟩
theorem wq_log_ext {h0 h1 h2 : Int64} {wr wr' : Nat → Int32} {w : Nat} (h : wq_log h0 h1 h2 wr w) (e : ∀ t, t < w → wr' t = wr t) : wq_log h0 h1 h2 wr' w := by
  obtain ⟨W, a, b⟩ := h
  exact ⟨W, fun t ht => by rw [e t ht]; exact a t ht, b⟩
/-- the word that holds entry t, and the entry in it -/
theorem wq_log_get {h0 h1 h2 : Int64} {wr : Nat → Int32} {w t j : Nat} (h : wq_log h0 h1 h2 wr w) (ht : t < w) (hw : w ≤ 63) (hj : j < 8) (z : Int64) (hz : z = if t < 21 then h0 else if t < 42 then h1 else h2) :
    (((z.toUInt64 >>> ((3 * (nI t - nI t / 21 * 21)).toInt64.toUInt64 &&& Int64.toUInt64 63)).toInt64) &&& 7 = (nI j).toInt64) ↔ wr t = nI j := by
  obtain ⟨W, a, b0, b1, b2⟩ := h
  obtain ⟨e1, e2⟩ := a t ht
  have rem : nI t - nI t / 21 * 21 = nI (t % 21) := pk_rem (a := t) (d := 21) (by omega) (by decide) (by decide)
  have mul : (3 : Int32) * nI (t % 21) = nI (3 * (t % 21)) := pk_mul 3 (t % 21)
  rw [rem, mul, nI_l (n := j) (by omega), e1, nI_eq (by omega) (by omega)]
  have fin : ((z.toUInt64 >>> ((nI (3 * (t % 21))).toInt64.toUInt64 &&& Int64.toUInt64 63)).toInt64) &&& 7 = lN (W t) := by
    by_cases c1 : t < 21
    · rw [if_pos c1] at hz
      rw [hz, show t % 21 = t by omega]
      by_cases c : w < 21
      · rw [if_pos c] at b0
        exact wq_w_get (by omega) ht b0
      · rw [if_neg c] at b0
        exact wq_w_get (by omega) c1 b0
    · rw [if_neg c1] at hz
      by_cases c2 : t < 42
      · rw [if_pos c2] at hz
        rw [hz, show t % 21 = t - 21 by omega, show W t = (fun i => W (21 + i)) (t - 21) by show W t = W (21 + (t - 21)); congr 1; omega]
        rw [if_neg (by omega)] at b1
        by_cases c : w < 42
        · rw [if_pos c] at b1
          exact wq_w_get (by omega) (by omega) b1
        · rw [if_neg c] at b1
          exact wq_w_get (by omega) (by omega) b1
      · rw [if_neg c2] at hz
        rw [hz, show t % 21 = t - 42 by omega, show W t = (fun i => W (42 + i)) (t - 42) by show W t = W (42 + (t - 42)); congr 1; omega]
        rw [if_neg (by omega)] at b2
        by_cases c : w < 63
        · rw [if_pos c] at b2
          exact wq_w_get (by omega) (by omega) b2
        · rw [if_neg c] at b2
          exact wq_w_get (by omega) (by omega) b2
  rw [fin]
  exact lN_eq (by omega) (by omega)
theorem wq_cnt_lp {post : Int32 → Prop} {h0 h1 h2 : Int64} {wr : Nat → Int32} {w j v : Nat} (hl : wq_log h0 h1 h2 wr w) (hw : w ≤ 63) (hv : v ≤ w) (hj : j < 8) : ∀ d k : Nat, k + d = v → post (nI (ws_cnt wr j v)) →
    wL_cnt_6 post h0 h1 h2 (nI v) (nI j) (d + 1) (nI (ws_cnt wr j k)) (nI k) := by
  intro d
  induction d with
  | zero =>
    intro k hk h
    have e : k = v := by omega
    subst e
    exact br_t (nI_le (Nat.le_refl _) (by omega)) h
  | succ d ih =>
    intro k hk h
    have g := ih (k + 1) (by omega) h
    rw [ws_cnt_s] at g
    have fin : ∀ z : Int64, (z = if k < 21 then h0 else if k < 42 then h1 else h2) → wL_cnt_44 post (wL_cnt_6 post h0 h1 h2 (nI v) (nI j) (d + 1)) h0 h1 h2 (nI v) (nI j) (nI (ws_cnt wr j k)) (nI k) z := by
      intro z hz
      have q := wq_log_get hl (show k < w by omega) hw hj z hz
      refine ⟨by decide, ?_⟩
      by_cases y : wr k = nI j
      · rw [if_pos y] at g
        exact br_t (q.mpr y) (nm_r (nI_1 _) (nm_r (nI_1 k) g))
      · rw [if_neg y] at g
        exact br_f (fun c => y (q.mp c)) (nm_r (nI_1 k) g)
    refine br_f (nI_ge (by omega) (by omega)) (br_f (nI_ge (b := 63) (by omega) (by omega)) ?_)
    by_cases c1 : k < 21
    · exact br_f (nI_ge (b := 21) c1 (by omega)) (fin h0 (by rw [if_pos c1]))
    · refine br_t (nI_le (a := 21) (by omega) (by omega)) ?_
      by_cases c2 : k < 42
      · exact br_f (nI_ge (b := 42) c2 (by omega)) (fin h1 (by rw [if_neg c1, if_pos c2]))
      · exact br_t (nI_le (a := 42) (by omega) (by omega)) (fin h2 (by rw [if_neg c1, if_neg c2]))
theorem wq_cntw {post : Int32 → Prop} {h0 h1 h2 : Int64} {wr : Nat → Int32} {w j v : Nat} (hl : wq_log h0 h1 h2 wr w) (hw : w ≤ 63) (hv : v ≤ w) (hj : j < 8) (h : post (nI (ws_cnt wr j v))) : wpL_cnt post () h0 h1 h2 (nI v) (nI j) :=
  ⟨v + 1, wq_cnt_lp hl hw hv hj v 0 (by omega) h⟩
/-- one entry more -/
theorem wq_log_put {h0 h1 h2 x : Int64} {wr : Nat → Int32} {w d : Nat} (hl : wq_log h0 h1 h2 wr w) (hw : w < 63) (hd : d < 8) (e : wr w = nI d) (hx : x = lN d <<< ((3 * (nI w - nI w / 21 * 21)).toInt64 &&& 63)) :
    wq_log (if w < 21 then h0 ||| x else h0) (if w < 21 then h1 else if w < 42 then h1 ||| x else h1) (if w < 42 then h2 else h2 ||| x) wr (w + 1) := by
  obtain ⟨W, a, b0, b1, b2⟩ := hl
  have rem : nI w - nI w / 21 * 21 = nI (w % 21) := pk_rem (a := w) (d := 21) (by omega) (by decide) (by decide)
  have mul : (3 : Int32) * nI (w % 21) = nI (3 * (w % 21)) := pk_mul 3 (w % 21)
  rw [rem, mul] at hx
  have Wd : ∀ t, t < w → (if t = w then d else W t) = W t := fun t ht => if_neg (by omega)
  refine ⟨fun t => if t = w then d else W t, fun t ht => ?_, ?_, ?_, ?_⟩
  · by_cases c : t = w
    · show wr t = nI (if t = w then d else W t) ∧ (if t = w then d else W t) < 8
      rw [if_pos c, c]
      exact ⟨e, hd⟩
    · show wr t = nI (if t = w then d else W t) ∧ (if t = w then d else W t) < 8
      rw [if_neg c]
      exact a t (by omega)
  · by_cases c : w < 21
    · rw [if_pos c] at b0
      rw [if_pos c, hx, show w % 21 = w by omega]
      have k : (if w + 1 < 21 then w + 1 else 21) = w + 1 := by split <;> omega
      rw [k]
      exact wq_w_put c hd (if_pos rfl) (wq_w_ext (fun i hi => Wd i hi) b0)
    · rw [if_neg c] at b0
      rw [if_neg c, if_neg (show ¬ w + 1 < 21 by omega)]
      exact wq_w_ext (fun i hi => Wd i (by omega)) b0
  · by_cases c : w < 21
    · rw [if_pos c] at b1
      have k : (if w + 1 < 21 then 0 else if w + 1 < 42 then w + 1 - 21 else 21) = 0 := by
        by_cases c' : w + 1 < 21
        · rw [if_pos c']
        · rw [if_neg c', if_pos (by omega)]
          omega
      rw [if_pos c, k]
      exact wq_w_ext (fun i hi => by omega) b1
    · rw [if_neg c] at b1
      rw [if_neg c, if_neg (show ¬ w + 1 < 21 by omega)]
      by_cases c2 : w < 42
      · rw [if_pos c2] at b1
        rw [if_pos c2, hx, show w % 21 = w - 21 by omega]
        have k : (if w + 1 < 42 then w + 1 - 21 else 21) = (w - 21) + 1 := by split <;> omega
        rw [k]
        refine wq_w_put (by omega) hd ?_ (wq_w_ext (fun i hi => Wd (21 + i) (by omega)) b1)
        show (if 21 + (w - 21) = w then d else W (21 + (w - 21))) = d
        rw [if_pos (by omega)]
      · rw [if_neg c2] at b1
        rw [if_neg c2, if_neg (show ¬ w + 1 < 42 by omega)]
        exact wq_w_ext (fun i hi => Wd (21 + i) (by omega)) b1
  · by_cases c : w < 42
    · rw [if_pos c] at b2
      have k : (if w + 1 < 42 then 0 else if w + 1 < 63 then w + 1 - 42 else 21) = 0 := by
        by_cases c' : w + 1 < 42
        · rw [if_pos c']
        · rw [if_neg c', if_pos (by omega)]
          omega
      rw [if_pos c, k]
      exact wq_w_ext (fun i hi => by omega) b2
    · rw [if_neg c, if_pos hw] at b2
      rw [if_neg c, if_neg (show ¬ w + 1 < 42 by omega), hx, show w % 21 = w - 42 by omega]
      have k : (if w + 1 < 63 then w + 1 - 42 else 21) = (w - 42) + 1 := by split <;> omega
      rw [k]
      refine wq_w_put (by omega) hd ?_ (wq_w_ext (fun i hi => Wd (42 + i) (by omega)) b2)
      show (if 42 + (w - 42) = w then d else W (42 + (w - 42))) = d
      rw [if_pos (by omega)]
