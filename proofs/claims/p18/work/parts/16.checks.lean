/-! the checks after a round -/
def ws_sum (wr : Nat → Int32) (v : Nat) : Nat → Nat
  | 0 => 0
  | k + 1 => ws_sum wr v k + ws_cnt wr k v
theorem ws_sum_s (wr : Nat → Int32) (v k : Nat) : ws_sum wr v (k + 1) = ws_sum wr v k + ws_cnt wr k v := rfl
theorem ws_sum_step {wr : Nat → Int32} {v i : Nat} (e : wr v = nI i) (hi : i < 2 ^ 31) : ∀ k : Nat, k < 2 ^ 31 → ws_sum wr (v + 1) k = ws_sum wr v k + (if i < k then 1 else 0) := by
  intro k
  induction k with
  | zero => intro _; rfl
  | succ k ih =>
    intro hk
    rw [ws_sum_s, ws_sum_s, ih (by omega), ws_cnt_s]
    by_cases z : i = k
    · rw [if_pos (show wr v = nI k by rw [e, z]), if_neg (show ¬ i < k by omega), if_pos (show i < k + 1 by omega)]
      omega
    · rw [if_neg (show ¬ wr v = nI k from fun y => z ((nI_eq hi (by omega)).mp (e.symm.trans y)))]
      by_cases c : i < k
      · rw [if_pos c, if_pos (by omega)]
        omega
      · rw [if_neg c, if_neg (by omega)]
        omega
theorem ws_sum_0 (wr : Nat → Int32) : ∀ k : Nat, ws_sum wr 0 k = 0 := by
  intro k
  induction k with
  | zero => rfl
  | succ k ih => rw [ws_sum_s, ih]; rfl
theorem ws_sum_all {n w : Nat} {m : Int32} {wr wn : Nat → Int32} (h : wq_L n w m wr wn) (hn : n ≤ 6) : ∀ v : Nat, v ≤ w → ws_sum wr v n = v := by
  intro v
  induction v with
  | zero => intro _; exact ws_sum_0 wr n
  | succ v ih =>
    intro hv
    obtain ⟨i, hi, e, _⟩ := h v (by omega)
    rw [ws_sum_step e (by omega) n (by omega), if_pos hi, ih (by omega)]
theorem ws_sum_le {wr : Nat → Int32} {v : Nat} : ∀ k : Nat, ws_sum wr v k ≤ k * v := by
  intro k
  induction k with
  | zero => exact Nat.zero_le _
  | succ k ih =>
    have := ws_cnt_le wr k v
    rw [ws_sum_s, Nat.succ_mul]
    omega
def wq_bits (n : Nat) (x : Int32) (B : Nat → Nat) : Prop := ∃ U : Nat, U < 64 ∧ x = nI U ∧ ∀ i, i < n → B i = U / 2 ^ i % 2
theorem wq_bit6 : ∀ U, U < 64 → ∀ i, i < 6 → (nI U >>> (nI i &&& 31)) &&& 1 = nI (U / 2 ^ i % 2) := by decide +kernel
theorem wq_bits_get {n i : Nat} {x : Int32} {B : Nat → Nat} (h : wq_bits n x B) (hn : n ≤ 6) (hi : i < n) : (x >>> (nI i &&& 31)) &&& 1 = nI (B i) := by
  obtain ⟨U, hU, rfl, hB⟩ := h
  rw [hB i hi]
  exact wq_bit6 U hU i (by omega)
theorem wq_bset6 : ∀ U, U < 64 → ∀ p, p < 6 → (nI U ||| ((1 : Int32) <<< (nI p &&& 31))) = nI (U ||| 2 ^ p) ∧ (U ||| 2 ^ p) < 64 ∧ (nI U &&& (((1 : Int32) <<< (nI p &&& 31)) ^^^ (-1))) = nI (U &&& (63 - 2 ^ p)) ∧ (U &&& (63 - 2 ^ p)) < 64 := by decide +kernel
theorem wq_bval6 : ∀ U, U < 64 → ∀ p, p < 6 → ∀ i, i < 6 → (U ||| 2 ^ p) / 2 ^ i % 2 = (if i = p then 1 else U / 2 ^ i % 2) ∧ (U &&& (63 - 2 ^ p)) / 2 ^ i % 2 = (if i = p then 0 else U / 2 ^ i % 2) := by decide +kernel
theorem wq_bits_1 {n p : Nat} {x : Int32} {B : Nat → Nat} (h : wq_bits n x B) (hn : n ≤ 6) (hp : p < n) : wq_bits n (x ||| ((1 : Int32) <<< (nI p &&& 31))) (wq_ub B p 1) := by
  obtain ⟨U, hU, rfl, hB⟩ := h
  obtain ⟨e1, e2, _, _⟩ := wq_bset6 U hU p (by omega)
  refine ⟨_, e2, e1, fun i hi => ?_⟩
  rw [(wq_bval6 U hU p (by omega) i (by omega)).1]
  unfold wq_ub
  by_cases c : i = p
  · rw [if_pos c, if_pos c]
  · rw [if_neg c, if_neg c]
    exact hB i hi
theorem wq_bits_0 {n p : Nat} {x : Int32} {B : Nat → Nat} (h : wq_bits n x B) (hn : n ≤ 6) (hp : p < n) : wq_bits n (x &&& (((1 : Int32) <<< (nI p &&& 31)) ^^^ (-1))) (wq_ub B p 0) := by
  obtain ⟨U, hU, rfl, hB⟩ := h
  obtain ⟨_, _, e1, e2⟩ := wq_bset6 U hU p (by omega)
  refine ⟨_, e2, e1, fun i hi => ?_⟩
  rw [(wq_bval6 U hU p (by omega) i (by omega)).2]
  unfold wq_ub
  by_cases c : i = p
  · rw [if_pos c, if_pos c]
  · rw [if_neg c, if_neg c]
    exact hB i hi
theorem wq_and3 : ∀ t, t < 4 → (nI t &&& 3) = nI t ∧ ((nI t + 4) &&& 3) = nI t := by decide +kernel
section
variable {n L w ub : Nat} {m : Int32} {B : Nat → Nat} {vV vC hV H ph st it sw ew lb vw co nx lc mc fc rv wr wn rd ra : Nat → Int32} {p : Nat}
variable {post : Int32 → Prop} {N : Nat} {xs : Nat → Int32} {J : Int64 → Int64 → Int64 → Int32 → Int32 → Int32 → Int32 → Int32 → Int32 → Int32 → Int32 → (Nat → Int32) → (Nat → Int32) → (Nat → Int32) → (Nat → Int32) → (Nat → Int32) → (Nat → Int32) → (Nat → Int32) → (Nat → Int32) → (Nat → Int32) → (Nat → Int32) → (Nat → Int32) → (Nat → Int32) → (Nat → Int32) → (Nat → Int32) → (Nat → Int32) → (Nat → Int32) → (Nat → Int32) → Prop} {x4 x13 x14 x15 x16 : Int32} {kc ks : Nat} {h0 h1 h2 : Int64}
theorem wq_908 {J7 : Int32 → Prop} {i v : Nat} (hR : wq_R n L w ub m B vV vC hV ph st it sw ew vw co nx lc mc fc rv wr wn rd ra) (hl : wq_log h0 h1 h2 wr w) (hi : i < n) (ev : vw i = nI v) (hv : v ≤ w) (hK : J7 (nI (i + 1))) :
    ∀ d j : Nat, j + d = n → wL_law_908 post N xs J J7 (nI n) m x4 h0 h1 h2 (nI w) x13 x14 x15 x16 (nI i) (nI v) kc ks (nI n) (nI L) (nI w) (nI ub) vV vC hV H ph st it sw ew lb vw co nx lc mc fc rv (d + 1) (nI (ws_sum wr v j)) (nI j) := by
  intro d
  have hR0 := hR
  obtain ⟨h2n, h6, hL, hub, hact, hV', hH, hLg, hP, hE⟩ := hR
  induction d with
  | zero =>
    intro j hj
    have e : j = n := by omega
    subst e
    refine br_t (nI_le (Nat.le_refl _) (by omega)) (br_t (by rw [ws_sum_all hLg h6 v hv]) ?_)
    exact nm_r (nI_1 i) hK
  | succ d ih =>
    intro j hj
    have hjn : j < n := by omega
    refine br_f (nI_ge hjn (by omega)) (wq_cntw hl (by omega) hv (by omega) (wq_cnt0 hR0 hi hjn ev hv (br_t rfl (wq_val0 hR0 hi hjn ev hv (wq_valw (br_t rfl ?_))))))
    exact nm_r (nI_add _ _) (nm_r (nI_1 j) (ih (j + 1) (by omega)))
theorem wq_794 (hR : wq_R n L w ub m B vV vC hV ph st it sw ew vw co nx lc mc fc rv wr wn rd ra) (hl : wq_log h0 h1 h2 wr w) (hB : wq_bits n x13 B) (hK : J h0 h1 h2 (nI w) x13 x14 (x16 + 1) (nI n) (nI L) (nI w) (nI ub) vV vC hV H ph st it sw ew lb vw co nx lc mc fc rv) :
    ∀ d i : Nat, i + d = n → wL_law_794 post N xs J (nI n) m x4 h0 h1 h2 (nI w) x13 x14 x15 x16 kc ks (nI n) (nI L) (nI w) (nI ub) vV vC hV H ph st it sw ew lb vw co nx lc mc fc rv (d + 1) (nI i) := by
  intro d
  have hR0 := hR
  have hS := wq_S_i (H := H) (lb := lb) hR
  obtain ⟨h2n, h6, hL, hub, hact, hV', hH, hLg, hP, hE⟩ := hR
  induction d with
  | zero =>
    intro i hi
    exact br_t (nI_le (by omega) (by omega)) (nm_e hK)
  | succ d ih =>
    intro i hi
    have hin : i < n := by omega
    have g := ih (i + 1) (by omega)
    obtain ⟨r, t, k, b1, b2, b3, b4, b5, b6, b7, b8, b9, b10, b11⟩ := hE i hin
    have nn : n * (n + 1) ≤ 42 := by rcases ws_n5 h2n h6 with rfl | rfl | rfl | rfl | rfl <;> omega
    have e1 : (nI n * (nI n + 1)) + ((x13 >>> (nI i &&& 31)) &&& 1) = nI (n * (n + 1) + B i) := by
      rw [wq_bits_get hB h6 hin, nI_1, pk_mul, nI_add]
    refine br_f (nI_ge hin (by omega)) (wq_steps hS hin ?_)
    rw [b5, e1]
    refine br_t (nI_le b6 (by omega)) (wq_ver0 hR0 hin ?_)
    have nov : vw i = -6 → (t = 0 → k = 0) → ((0 ≤ vw i → wpX_startedAt (fun r_166 => (((vw i < r_166 → (post 0)) ∧ (¬ vw i < r_166 → (wpX_endedAt (fun r_168 => (((r_168 < vw i → (post 0)) ∧ (¬ r_168 < vw i → (wpX_endedAt (fun r_170 => (((r_170 ≤ nI w → (∃ fu908 : Nat, wL_law_908 post N xs J (wL_law_794 post N xs J (nI n) m x4 h0 h1 h2 (nI w) x13 x14 x15 x16 kc ks (nI n) (nI L) (nI w) (nI ub) vV vC hV H ph st it sw ew lb vw co nx lc mc fc rv (d + 1)) (nI n) m x4 h0 h1 h2 (nI w) x13 x14 x15 x16 (nI i) (vw i) kc ks (nI n) (nI L) (nI w) (nI ub) vV vC hV H ph st it sw ew lb vw co nx lc mc fc rv fu908 0 0)) ∧ (¬ r_170 ≤ nI w → (post 0))))) ((nI n), (nI L), (nI w), (nI ub), vV, vC, hV, H, ph, st, it, sw, ew, lb, vw, co, nx, lc, mc, fc, rv) (nI i)))))) ((nI n), (nI L), (nI w), (nI ub), vV, vC, hV, H, ph, st, it, sw, ew, lb, vw, co, nx, lc, mc, fc, rv) (nI i)))))) ((nI n), (nI L), (nI w), (nI ub), vV, vC, hV, H, ph, st, it, sw, ew, lb, vw, co, nx, lc, mc, fc, rv) (nI i)) ∧
        (¬ 0 ≤ vw i → wpX_phase (fun r_183 => ((((r_183 &&& 3) = 0 → (wpX_steps (fun r_186 => (((r_186 ≤ 0 → (∀ y : Int32, y = nI i + 1 → (wL_law_794 post N xs J (nI n) m x4 h0 h1 h2 (nI w) x13 x14 x15 x16 kc ks (nI n) (nI L) (nI w) (nI ub) vV vC hV H ph st it sw ew lb vw co nx lc mc fc rv (d + 1) y))) ∧ (¬ r_186 ≤ 0 → (post 0))))) ((nI n), (nI L), (nI w), (nI ub), vV, vC, hV, H, ph, st, it, sw, ew, lb, vw, co, nx, lc, mc, fc, rv) (nI i))) ∧ (¬ (r_183 &&& 3) = 0 → (∀ y : Int32, y = nI i + 1 → (wL_law_794 post N xs J (nI n) m x4 h0 h1 h2 (nI w) x13 x14 x15 x16 kc ks (nI n) (nI L) (nI w) (nI ub) vV vC hV H ph st it sw ew lb vw co nx lc mc fc rv (d + 1) y)))))) ((nI n), (nI L), (nI w), (nI ub), vV, vC, hV, H, ph, st, it, sw, ew, lb, vw, co, nx, lc, mc, fc, rv) (nI i))) := by
      intro ev hk0
      rw [ev]
      refine br_f (by decide) ?_
      have fin : ∀ y : Int32, (y &&& 3) = nI t → (((y &&& 3) = 0 → (wpX_steps (fun r_186 => (((r_186 ≤ 0 → (∀ y : Int32, y = nI i + 1 → (wL_law_794 post N xs J (nI n) m x4 h0 h1 h2 (nI w) x13 x14 x15 x16 kc ks (nI n) (nI L) (nI w) (nI ub) vV vC hV H ph st it sw ew lb vw co nx lc mc fc rv (d + 1) y))) ∧ (¬ r_186 ≤ 0 → (post 0))))) ((nI n), (nI L), (nI w), (nI ub), vV, vC, hV, H, ph, st, it, sw, ew, lb, vw, co, nx, lc, mc, fc, rv) (nI i))) ∧ (¬ (y &&& 3) = 0 → (∀ y : Int32, y = nI i + 1 → (wL_law_794 post N xs J (nI n) m x4 h0 h1 h2 (nI w) x13 x14 x15 x16 kc ks (nI n) (nI L) (nI w) (nI ub) vV vC hV H ph st it sw ew lb vw co nx lc mc fc rv (d + 1) y)))) := by
        intro y hy
        rw [hy]
        by_cases t0 : t = 0
        · refine br_t (by rw [t0]; rfl) (wq_steps hS hin ?_)
          rw [b5, hk0 t0]
          exact br_t (by decide) (nm_r (nI_1 i) g)
        · exact br_f (nI_ne0 (by omega) (by omega)) (nm_r (nI_1 i) g)
      refine wq_phase hS hin (fun _ => ?_) (fun _ => ?_)
      · rw [b3]
        exact fin _ (wq_and3 t b4).1
      · rw [b3]
        exact fin _ (wq_and3 t b4).2
    rcases b11 with ⟨z1, z2, z3⟩ | ⟨s0, a1, a2, a3, a4, a5, a6⟩
    · exact nov z3 (fun _ => z2)
    · by_cases t12 : t = 1 ∨ t = 2
      · exact nov (a6 t12) (fun z => by omega)
      · obtain ⟨x, e, c1, c2, c3, c4, c5⟩ := a5 (by omega)
        rw [c4]
        refine br_t (nI_pos' (by omega)) (wq_start h6 hin ?_)
        rw [a2]
        refine br_f (nI_nlt c1 (by omega)) (wq_ended h6 hin ?_)
        rw [c5]
        refine br_f (nI_nlt c2 (by omega)) (wq_ended h6 hin ?_)
        rw [c5]
        refine br_t (nI_le c3 (by omega)) ⟨n + 1, ?_⟩
        exact wq_908 hR0 hl hin c4 (by omega) g n 0 (by omega)
theorem wq_726 (hR : wq_R n L w ub m B vV vC hV ph st it sw ew vw co nx lc mc fc rv wr wn rd ra) (hl : wq_log h0 h1 h2 wr w) (hB : wq_bits n x13 B) (hK : J h0 h1 h2 (nI w) x13 x14 (x16 + 1) (nI n) (nI L) (nI w) (nI ub) vV vC hV H ph st it sw ew lb vw co nx lc mc fc rv) :
    ∀ d j : Nat, j + d = n → wL_law_726 post N xs J (nI n) m x4 h0 h1 h2 (nI w) x13 x14 x15 x16 kc ks (nI n) (nI L) (nI w) (nI ub) vV vC hV H ph st it sw ew lb vw co nx lc mc fc rv (d + 1) (nI j) := by
  intro d
  have hR0 := hR
  obtain ⟨h2n, h6, hL, hub, hact, hV', hH, hLg, hP, hE⟩ := hR
  induction d with
  | zero =>
    intro j hj
    exact br_t (nI_le (by omega) (by omega)) ⟨n + 1, wq_794 (H := H) (lb := lb) hR0 hl hB hK n 0 (by omega)⟩
  | succ d ih =>
    intro j hj
    have hjn : j < n := by omega
    refine br_f (nI_ge hjn (by omega)) (wq_cntw hl (by omega) (Nat.le_refl w) (by omega) (wq_cnt2 hR0 hjn (br_t rfl (wq_val2 hR0 hjn (wq_valw (br_t rfl ?_))))))
    exact nm_r (nI_1 j) (ih (j + 1) (by omega))
end
