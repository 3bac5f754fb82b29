/-! a write step, a begin and the start, in the pure picture -/
def ws_row (f : Nat → Int32) (b k : Nat) : Nat → Int32 := fun x => if b + 6 ≤ x ∧ x < b + 6 + k then f (x - 6) else f x
def ws_fill (f : Nat → Int32) (b k : Nat) (c : Int32) : Nat → Int32 := fun x => if b ≤ x ∧ x < b + k then c else f x
theorem ws_row_0 (f : Nat → Int32) (b : Nat) : ws_row f b 0 = f := by
  funext x
  exact if_neg (by omega)
theorem ws_row_lo (f : Nat → Int32) (b k x : Nat) (h : x < b + 6) : ws_row f b k x = f x := if_neg (by omega)
theorem ws_row_s (f : Nat → Int32) (b k : Nat) (hk : k < 6) : upd (ws_row f b k) (b + 6 + k) (ws_row f b k (b + k)) = ws_row f b (k + 1) := by
  funext x
  rw [ws_row_lo f b k (b + k) (by omega)]
  by_cases e : x = b + 6 + k
  · subst e
    rw [pk_us]
    show _ = if _ then _ else _
    rw [if_pos (by omega), show b + 6 + k - 6 = b + k by omega]
  · rw [pk_un e]
    show (if _ then _ else _) = if _ then _ else _
    by_cases z : b + 6 ≤ x ∧ x < b + 6 + k
    · rw [if_pos z, if_pos (by omega)]
    · rw [if_neg z, if_neg (by omega)]
theorem ws_row_hi (f : Nat → Int32) (b j : Nat) (h : j < 6) : ws_row f b 6 (b + 6 + j) = f (b + j) := by
  show (if _ then _ else _) = _
  rw [if_pos (by omega), show b + 6 + j - 6 = b + j by omega]
theorem ws_fill_0 (f : Nat → Int32) (b : Nat) (c : Int32) : ws_fill f b 0 c = f := by
  funext x
  exact if_neg (by omega)
theorem ws_fill_s (f : Nat → Int32) (b k : Nat) (c : Int32) : upd (ws_fill f b k c) (b + k) c = ws_fill f b (k + 1) c := by
  funext x
  by_cases e : x = b + k
  · subst e
    rw [pk_us]
    show _ = if _ then _ else _
    rw [if_pos (by omega)]
  · rw [pk_un e]
    show (if _ then _ else _) = if _ then _ else _
    by_cases z : b ≤ x ∧ x < b + k
    · rw [if_pos z, if_pos (by omega)]
    · rw [if_neg z, if_neg (by omega)]
theorem ws_fill_in (f : Nat → Int32) (b k : Nat) (c : Int32) (j : Nat) (h : j < k) : ws_fill f b k c (b + j) = c := if_pos (by omega)
theorem ws_fill_out (f : Nat → Int32) (b k : Nat) (c : Int32) (x : Nat) (h : x < b ∨ b + k ≤ x) : ws_fill f b k c x = f x := if_neg (by omega)
def ws_V (w : Nat) (vV vC wr wn : Nat → Int32) : Prop := ∀ v j, v ≤ w → j < 6 → vC (v * 6 + j) = nI (ws_cnt wr j v) ∧ vV (v * 6 + j) = ws_last wr wn j v
def ws_H (n w : Nat) (hV wr ca : Nat → Int32) : Prop := ∀ j, j < n → hV j = ws_last wr ca j w ∧ ∃ h, h ≤ w ∧ hV j = nI h
theorem ws_V_new {w p : Nat} {vV vC wr wn : Nat → Int32} {x : Int32} (hp : p < 6) (h : ws_V w vV vC wr wn) :
    ws_V (w + 1) (upd (ws_row vV (w * 6) 6) (w * 6 + 6 + p) x) (upd (ws_row vC (w * 6) 6) (w * 6 + 6 + p) (nI (ws_cnt wr p w + 1))) (upd wr w (nI p)) (upd wn w x) := by
  intro v j hv hj
  by_cases e : v = w + 1
  · subst e
    obtain ⟨h1, h2⟩ := h w j (Nat.le_refl w) hj
    rw [ws_cnt_new wr w p j (by omega) (by omega), ws_last_new wr wn w p j x (by omega) (by omega), show (w + 1) * 6 + j = w * 6 + 6 + j by omega]
    by_cases z : p = j
    · subst z
      rw [pk_us, pk_us, if_pos rfl, if_pos rfl]
      exact ⟨rfl, rfl⟩
    · rw [pk_un (show w * 6 + 6 + j ≠ w * 6 + 6 + p by omega), pk_un (show w * 6 + 6 + j ≠ w * 6 + 6 + p by omega), if_neg z, if_neg z, ws_row_hi _ _ _ hj, ws_row_hi _ _ _ hj]
      exact ⟨h1, h2⟩
  · obtain ⟨h1, h2⟩ := h v j (by omega) hj
    rw [ws_cnt_upd wr w (nI p) j v (by omega), ws_last_upd wr wn w (nI p) x j v (by omega), pk_un (show v * 6 + j ≠ w * 6 + 6 + p by omega), pk_un (show v * 6 + j ≠ w * 6 + 6 + p by omega), ws_row_lo _ _ _ _ (by omega), ws_row_lo _ _ _ _ (by omega)]
    exact ⟨h1, h2⟩
theorem ws_H_new {n w p x : Nat} {hV wr ca : Nat → Int32} (hp : p < 6) (hn : n ≤ 6) (hx : x ≤ w) (h : ws_H n w hV wr ca) :
    ws_H n (w + 1) (upd hV p (nI x)) (upd wr w (nI p)) (upd ca w (nI x)) := by
  intro j hj
  obtain ⟨h1, y, hy, e⟩ := h j hj
  rw [ws_last_new wr ca w p j (nI x) (by omega) (by omega)]
  by_cases z : p = j
  · subst z
    rw [if_pos rfl, pk_us]
    exact ⟨rfl, x, by omega, rfl⟩
  · rw [if_neg z, pk_un (fun q => z q.symm)]
    exact ⟨h1, y, by omega, e⟩
theorem ws_P_idle {n w : Nat} {wr A : Nat → Int32} {rd ph ew vw yv co nx lc : Int32} {M F R : Nat → Int32} (h : ws_P n w wr A rd ph ew vw yv co nx lc M F R) : ws_P n w wr A rd (nI 0) ew vw yv co nx lc M F R := by
  obtain ⟨r, t, hr, ht, er, et, h1, h2, h3, h4, h5⟩ := h
  exact ⟨r, 0, hr, by omega, er, rfl, h1, h2, h3, fun z => by omega, fun z => by omega⟩
theorem ws_P_init {n w : Nat} {wr A : Nat → Int32} {yv co nx lc : Int32} {M F R : Nat → Int32}
    (hM : ∀ j, j < 6 → M j = 0) (hR : ∀ j, j < 6 → R j = -6) (h6 : n ≤ 6) : ws_P n w wr A (nI 0) (nI 0) (-6) (-6) yv co nx lc M F R := by
  refine ⟨0, 0, by omega, by omega, rfl, rfl, fun s hs => by omega, ?_, Or.inl ⟨rfl, rfl⟩, fun z => by omega, fun z => by omega⟩
  intro j hj
  exact ⟨hR j (by omega), hM j (by omega)⟩
theorem ws_V_init : ws_V 0 (fun _ => 0) (fun _ => 0) (fun _ => 0) (fun _ => 0) := by
  intro v j hv hj
  have e : v = 0 := by omega
  subst e
  exact ⟨rfl, rfl⟩
theorem ws_H_init (n : Nat) : ws_H n 0 (fun _ => 0) (fun _ => 0) (fun _ => 0) := by
  intro j hj
  exact ⟨rfl, 0, Nat.le_refl 0, rfl⟩
