/-! beyond the walks: what each operation, each register and the log hold -/
def wq_mix (c k : Int32) : Int32 :=
  ((c * (-1640531535) + k * (-2048144789)) ^^^ (((c * (-1640531535) + k * (-2048144789)).toUInt32 >>> ((15 : Int32).toUInt32 &&& Int32.toUInt32 31)).toInt32)) * 739982445
def wq_mx (c k : Int32) : Int32 := (wq_mix c k ^^^ ((wq_mix c k).toUInt32 >>> ((13 : Int32).toUInt32 &&& Int32.toUInt32 31)).toInt32) &&& 2147483647
def wq_vI (m j c : Int32) : Int32 := if c = 0 then 0 else if m = 0 then 100 * (j + 1) + c else if m = 1 then c &&& 1 else if m = 2 then 5 else wq_mx c (j + 7) - 1073741824
def wq_val (m : Int32) (j c : Nat) : Int32 := wq_vI m (nI j) (nI c)
theorem wq_val_0 (m : Int32) (j : Nat) : wq_val m j 0 = 0 := by
  unfold wq_val wq_vI
  exact if_pos rfl
def wq_H (n w : Nat) (hV wr : Nat → Int32) : Prop := ∀ j, j < n → ∃ h, h ≤ w ∧ hV j = nI h ∧ ws_cnt wr j w ≤ ws_cnt wr j h + 1
def wq_L (n w : Nat) (m : Int32) (wr wn : Nat → Int32) : Prop := ∀ t, t < w → ∃ j, j < n ∧ wr t = nI j ∧ wn t = wq_val m j (ws_cnt wr j t + 1)
def wq_Vw (s0 w : Nat) (vw ew : Int32) : Prop := ∃ x e : Nat, s0 ≤ x ∧ x ≤ e ∧ e ≤ w ∧ vw = nI x ∧ ew = nI e
def wq_D (w : Nat) (wr : Nat → Int32) (p : Nat) (A : Nat → Int32) (r t k : Nat) (sw ew vw : Int32) : Prop :=
  (t = 0 ∧ k = 0 ∧ vw = -6) ∨ ∃ s0, s0 ≤ w ∧ sw = nI s0 ∧ (∀ s, s < r → s0 ≤ (A s).toNatClampNeg) ∧ (t ≠ 0 → ws_cnt wr p s0 = ws_cnt wr p w) ∧
    (t = 0 ∨ t = 3 → wq_Vw s0 w vw ew) ∧ (t = 1 ∨ t = 2 → vw = -6)
def wq_E (n w : Nat) (m : Int32) (wr : Nat → Int32) (p : Nat) (A : Nat → Int32) (b : Nat) (rd ph st it sw ew vw : Int32) : Prop :=
  ∃ r t k : Nat, rd = nI r ∧ r ≤ 64 ∧ ph = nI t ∧ t < 4 ∧ st = nI k ∧ k ≤ n * (n + 1) + b ∧ b ≤ 1 ∧ (t ≠ 0 → k = r) ∧ (t = 3 → r ≤ n * (n + 1)) ∧
  (t = 2 ∨ t = 3 → b = 1 ∧ it = wq_val m p (ws_cnt wr p w + 1)) ∧
  wq_D w wr p A r t k sw ew vw
theorem wq_last {n w : Nat} {m : Int32} {wr wn : Nat → Int32} (hn : n ≤ 6) (h : wq_L n w m wr wn) (j : Nat) (hj : j < 2 ^ 31) : ∀ v : Nat, v ≤ w → ws_last wr wn j v = wq_val m j (ws_cnt wr j v) := by
  intro v
  induction v with
  | zero => intro _; exact (wq_val_0 m j).symm
  | succ v ih =>
    intro hv
    rw [ws_last_s, ws_cnt_s]
    obtain ⟨i, hi, e1, e2⟩ := h v (by omega)
    by_cases z : wr v = nI j
    · rw [if_pos z, if_pos z]
      have : i = j := (nI_eq (by omega) hj).mp (e1.symm.trans z)
      rw [← this]
      exact e2
    · rw [if_neg z, if_neg z]
      exact ih (by omega)
theorem wq_L_new {n w p : Nat} {m : Int32} {wr wn : Nat → Int32} {x : Int32} (hp : p < n) (h : wq_L n w m wr wn) (hx : x = wq_val m p (ws_cnt wr p w + 1)) : wq_L n (w + 1) m (upd wr w (nI p)) (upd wn w x) := by
  intro t ht
  by_cases e : t = w
  · subst e
    exact ⟨p, hp, pk_us, by rw [pk_us, ws_cnt_upd wr t (nI p) p t (Nat.le_refl t)]; exact hx⟩
  · obtain ⟨j, hj, e1, e2⟩ := h t (by omega)
    exact ⟨j, hj, by rw [pk_un e]; exact e1, by rw [pk_un e, ws_cnt_upd wr w (nI p) j t (by omega)]; exact e2⟩
theorem wq_H_new {n w p x : Nat} {hV wr : Nat → Int32} (hp : p < n) (hn : n ≤ 6) (hx : x ≤ w) (hc : ws_cnt wr p w ≤ ws_cnt wr p x) (h : wq_H n w hV wr) : wq_H n (w + 1) (upd hV p (nI x)) (upd wr w (nI p)) := by
  intro j hj
  rw [ws_cnt_new wr w p j (by omega) (by omega)]
  by_cases e : j = p
  · subst e
    rw [pk_us, if_pos rfl]
    exact ⟨x, by omega, rfl, by rw [ws_cnt_upd wr w (nI j) j x hx]; omega⟩
  · rw [pk_un e, if_neg (fun z => e z.symm)]
    obtain ⟨y, hy, e1, e2⟩ := h j hj
    exact ⟨y, by omega, e1, by rw [ws_cnt_upd wr w (nI p) j y hy]; exact e2⟩
theorem wq_E_ext {n w w' : Nat} {m : Int32} {wr wr' : Nat → Int32} {p : Nat} {A A' : Nat → Int32} {b : Nat} {rd ph st it sw ew vw : Int32} (hw : w ≤ w')
    (hc : ∀ v, v ≤ w → ws_cnt wr' p v = ws_cnt wr p v) (hc2 : ws_cnt wr' p w' = ws_cnt wr p w) (hA : ∀ s, s < 64 → A' s = A s) (h : wq_E n w m wr p A b rd ph st it sw ew vw) : wq_E n w' m wr' p A' b rd ph st it sw ew vw := by
  obtain ⟨r, t, k, h1, h2, h3, h4, h5, h6, h7, h8, h9, h10, h11⟩ := h
  refine ⟨r, t, k, h1, h2, h3, h4, h5, h6, h7, h8, h9, by rw [hc2]; exact h10, ?_⟩
  rcases h11 with z | ⟨s0, a1, a2, a3, a4, a5, a6⟩
  · exact Or.inl z
  · refine Or.inr ⟨s0, by omega, a2, fun s hs => by rw [hA s (by omega)]; exact a3 s hs, fun z => by rw [hc2, hc s0 a1]; exact a4 z, fun z => ?_, a6⟩
    obtain ⟨x, e, b1, b2, b3, b4⟩ := a5 z
    exact ⟨x, e, b1, b2, by omega, b4⟩
theorem wq_mv_const {wr A : Nat → Int32} {n j c : Nat} : ∀ r : Nat, (∀ s, s < r → ws_cnt wr j (A s).toNatClampNeg = c) → ws_mv wr A n j r = 0 := by
  intro r
  induction r with
  | zero => intro _; rfl
  | succ r ih =>
    intro h
    rw [ws_mv_s, if_neg]
    · exact ih (fun s hs => h s (by omega))
    · intro z
      have a := h r (by omega)
      have b := h (r - n) (by omega)
      omega
theorem wq_dm {n : Nat} (h2 : 2 ≤ n) (h6 : n ≤ 6) (r : Nat) (h : r / n ≤ n) : r < n * (n + 1) := by
  rcases ws_n5 h2 h6 with rfl | rfl | rfl | rfl | rfl <;> omega
theorem wq_bound {n p : Nat} {wr A : Nat → Int32} {r : Nat} (h2 : 2 ≤ n) (h6 : n ≤ 6) (hp : p < n) (h : ws_WF n wr A r) (h0 : ws_mv wr A n p r = 0) : r < n * (n + 1) := by
  have := ws_pig (n - 1) (r / n - 1) (fun j => ws_mv wr A n (if j < p then j else j + 1) r - 2) (fun k hk => by
    obtain ⟨j, hj, e⟩ := h.1 (k + 2) (by omega) (by omega)
    have hjp : j ≠ p := fun z => by rw [z] at e; omega
    by_cases c : j < p
    · refine ⟨j, by omega, ?_⟩
      show ws_mv wr A n (if j < p then j else j + 1) r - 2 = k
      rw [if_pos c]
      omega
    · refine ⟨j - 1, by omega, ?_⟩
      show ws_mv wr A n (if j - 1 < p then j - 1 else j - 1 + 1) r - 2 = k
      rw [if_neg (by omega), show j - 1 + 1 = j by omega]
      omega)
  exact wq_dm h2 h6 r (by omega)
/-- what E says of a reading operation, at its number of reads -/
theorem wq_E_read {n w : Nat} {m : Int32} {wr : Nat → Int32} {p : Nat} {A : Nat → Int32} {b r t : Nat} {ph st it sw ew vw : Int32} (hr64 : r ≤ 64) (et : ph = nI t) (ht : t = 1 ∨ t = 2) (h : wq_E n w m wr p A b (nI r) ph st it sw ew vw) :
    st = nI r ∧ b ≤ 1 ∧ (t = 2 → b = 1 ∧ it = wq_val m p (ws_cnt wr p w + 1)) ∧ vw = -6 ∧ ∃ s0, s0 ≤ w ∧ sw = nI s0 ∧ (∀ s, s < r → s0 ≤ (A s).toNatClampNeg) ∧ ws_cnt wr p s0 = ws_cnt wr p w := by
  obtain ⟨r', t', k, h1, h2, h3, h4, h5, h6, h7, h8, h9, h10, h11⟩ := h
  have er : r = r' := (nI_eq (by omega) (by omega)).mp h1
  have ett : t = t' := (nI_eq (by omega) (by omega)).mp (et.symm.trans h3)
  subst er ett
  have ek := h8 (by omega)
  subst ek
  refine ⟨h5, h7, fun z => h10 (Or.inl z), ?_⟩
  rcases h11 with z | ⟨s0, a1, a2, a3, a4, a5, a6⟩
  · omega
  · exact ⟨a6 ht, s0, a1, a2, a3, a4 (by omega)⟩
