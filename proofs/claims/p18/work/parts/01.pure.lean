/-! the pure picture: counts and last values of a log, latest reads and moves of an operation -/
def ws_cnt (wr : Nat → Int32) (j : Nat) : Nat → Nat
  | 0 => 0
  | v + 1 => if wr v = nI j then ws_cnt wr j v + 1 else ws_cnt wr j v
def ws_last (wr a : Nat → Int32) (j : Nat) : Nat → Int32
  | 0 => 0
  | v + 1 => if wr v = nI j then a v else ws_last wr a j v
def ws_rd (A : Nat → Int32) (n j : Nat) : Nat → Int32
  | 0 => -6
  | s + 1 => if s % n = j then A s else ws_rd A n j s
def ws_mv (wr A : Nat → Int32) (n j : Nat) : Nat → Nat
  | 0 => 0
  | s + 1 => if n ≤ s ∧ s % n = j ∧ ws_cnt wr j (A (s - n)).toNatClampNeg < ws_cnt wr j (A s).toNatClampNeg then s / n + 1 else ws_mv wr A n j s
def ws_b (x : Int32) : Nat := if x = 2 ∨ x = 3 then 1 else 0
def ws_act (ph : Nat → Int32) : Nat → Nat
  | 0 => 0
  | n + 1 => ws_act ph n + ws_b (ph n)
theorem ws_cnt_s (wr : Nat → Int32) (j v : Nat) : ws_cnt wr j (v + 1) = if wr v = nI j then ws_cnt wr j v + 1 else ws_cnt wr j v := rfl
theorem ws_last_s (wr a : Nat → Int32) (j v : Nat) : ws_last wr a j (v + 1) = if wr v = nI j then a v else ws_last wr a j v := rfl
theorem ws_rd_s (A : Nat → Int32) (n j s : Nat) : ws_rd A n j (s + 1) = if s % n = j then A s else ws_rd A n j s := rfl
theorem ws_mv_s (wr A : Nat → Int32) (n j s : Nat) : ws_mv wr A n j (s + 1) = if n ≤ s ∧ s % n = j ∧ ws_cnt wr j (A (s - n)).toNatClampNeg < ws_cnt wr j (A s).toNatClampNeg then s / n + 1 else ws_mv wr A n j s := rfl
theorem ws_cnt_le (wr : Nat → Int32) (j v : Nat) : ws_cnt wr j v ≤ v := by
  induction v with
  | zero => exact Nat.le_refl 0
  | succ v ih =>
    rw [ws_cnt_s]
    split <;> omega
theorem ws_cnt_mono (wr : Nat → Int32) (j a : Nat) : ∀ d : Nat, ws_cnt wr j a ≤ ws_cnt wr j (a + d) := by
  intro d
  induction d with
  | zero => exact Nat.le_refl _
  | succ d ih =>
    rw [show a + (d + 1) = (a + d) + 1 from rfl, ws_cnt_s]
    split <;> omega
theorem ws_cnt_mon (wr : Nat → Int32) (j : Nat) {a b : Nat} (h : a ≤ b) : ws_cnt wr j a ≤ ws_cnt wr j b := by
  have := ws_cnt_mono wr j a (b - a)
  rw [show a + (b - a) = b by omega] at this
  exact this
theorem ws_cnt_upd (wr : Nat → Int32) (w : Nat) (x : Int32) (j : Nat) : ∀ v : Nat, v ≤ w → ws_cnt (upd wr w x) j v = ws_cnt wr j v := by
  intro v
  induction v with
  | zero => intro _; rfl
  | succ v ih =>
    intro h
    rw [ws_cnt_s, ws_cnt_s, ih (by omega), pk_un (show v ≠ w by omega)]
theorem ws_last_upd (wr a : Nat → Int32) (w : Nat) (x y : Int32) (j : Nat) : ∀ v : Nat, v ≤ w → ws_last (upd wr w x) (upd a w y) j v = ws_last wr a j v := by
  intro v
  induction v with
  | zero => intro _; rfl
  | succ v ih =>
    intro h
    rw [ws_last_s, ws_last_s, ih (by omega), pk_un (show v ≠ w by omega), pk_un (show v ≠ w by omega)]
theorem ws_cnt_new (wr : Nat → Int32) (w p j : Nat) (hp : p < 2 ^ 31) (hj : j < 2 ^ 31) : ws_cnt (upd wr w (nI p)) j (w + 1) = if p = j then ws_cnt wr j w + 1 else ws_cnt wr j w := by
  rw [ws_cnt_s, pk_us, ws_cnt_upd wr w (nI p) j w (Nat.le_refl w)]
  by_cases h : p = j
  · rw [if_pos h, if_pos (by rw [h])]
  · rw [if_neg h, if_neg (fun z => h ((nI_eq hp hj).mp z))]
theorem ws_last_new (wr a : Nat → Int32) (w p j : Nat) (y : Int32) (hp : p < 2 ^ 31) (hj : j < 2 ^ 31) : ws_last (upd wr w (nI p)) (upd a w y) j (w + 1) = if p = j then y else ws_last wr a j w := by
  rw [ws_last_s, pk_us, pk_us, ws_last_upd wr a w (nI p) y j w (Nat.le_refl w)]
  by_cases h : p = j
  · rw [if_pos h, if_pos (by rw [h])]
  · rw [if_neg h, if_neg (fun z => h ((nI_eq hp hj).mp z))]
theorem ws_rd_ext {A A' : Nat → Int32} (n j : Nat) : ∀ r : Nat, (∀ s, s < r → A' s = A s) → ws_rd A' n j r = ws_rd A n j r := by
  intro r
  induction r with
  | zero => intro _; rfl
  | succ r ih =>
    intro h
    rw [ws_rd_s, ws_rd_s, ih (fun s hs => h s (by omega)), h r (by omega)]
theorem ws_mv_ext {wr wr' A A' : Nat → Int32} (n j : Nat) : ∀ r : Nat, (∀ s, s < r → ws_cnt wr' j (A' s).toNatClampNeg = ws_cnt wr j (A s).toNatClampNeg) → ws_mv wr' A' n j r = ws_mv wr A n j r := by
  intro r
  induction r with
  | zero => intro _; rfl
  | succ r ih =>
    intro h
    rw [ws_mv_s, ws_mv_s, ih (fun s hs => h s (by omega)), h r (by omega), h (r - n) (by omega)]
theorem ws_mv_le (wr A : Nat → Int32) (n j : Nat) : ∀ r : Nat, ws_mv wr A n j r ≤ r := by
  intro r
  induction r with
  | zero => exact Nat.le_refl 0
  | succ r ih =>
    rw [ws_mv_s]
    have := Nat.div_le_self r n
    split <;> omega
theorem ws_mv_0 (wr A : Nat → Int32) (n j : Nat) : ∀ r : Nat, r ≤ n → ws_mv wr A n j r = 0 := by
  intro r
  induction r with
  | zero => intro _; rfl
  | succ r ih =>
    intro h
    rw [ws_mv_s, if_neg (fun z => by omega)]
    exact ih (by omega)
theorem ws_rd_some (A : Nat → Int32) (n j : Nat) (hj : j < n) : ∀ r : Nat, j < r → ∃ s, s < r ∧ ws_rd A n j r = A s := by
  intro r
  induction r with
  | zero => intro h; omega
  | succ r ih =>
    intro h
    rw [ws_rd_s]
    by_cases e : r % n = j
    · exact ⟨r, by omega, by rw [if_pos e]⟩
    · have hr : j ≠ r := fun z => e (by rw [← z]; exact Nat.mod_eq_of_lt hj)
      obtain ⟨s, hs, es⟩ := ih (by omega)
      exact ⟨s, by omega, by rw [if_neg e, es]⟩
theorem ws_rd_none (A : Nat → Int32) (n j : Nat) : ∀ r : Nat, ws_rd A n j r = -6 ∨ ∃ s, s < r ∧ ws_rd A n j r = A s := by
  intro r
  induction r with
  | zero => exact Or.inl rfl
  | succ r ih =>
    rw [ws_rd_s]
    by_cases e : r % n = j
    · exact Or.inr ⟨r, by omega, by rw [if_pos e]⟩
    · rw [if_neg e]
      rcases ih with h | ⟨s, hs, es⟩
      · exact Or.inl h
      · exact Or.inr ⟨s, by omega, es⟩
theorem ws_n5 {n : Nat} (h2 : 2 ≤ n) (h6 : n ≤ 6) : n = 2 ∨ n = 3 ∨ n = 4 ∨ n = 5 ∨ n = 6 := by omega
theorem ws_md {n : Nat} (h2 : 2 ≤ n) (h6 : n ≤ 6) (s d : Nat) (hd : d + 1 < n) : ¬ (s + 1 + d) % n = s % n := by
  rcases ws_n5 h2 h6 with rfl | rfl | rfl | rfl | rfl <;> omega
theorem ws_mb {n : Nat} (h2 : 2 ≤ n) (h6 : n ≤ 6) (r : Nat) (h : n ≤ r) : (r - n) % n = r % n := by
  rcases ws_n5 h2 h6 with rfl | rfl | rfl | rfl | rfl <;> omega
theorem ws_ml {n : Nat} (h2 : 2 ≤ n) (r : Nat) : r % n < n := Nat.mod_lt r (by omega)
theorem ws_dm1 {n : Nat} (h2 : 2 ≤ n) (h6 : n ≤ 6) (r : Nat) (h : r % n + 1 < n) : (r + 1) / n = r / n ∧ (r + 1) % n = r % n + 1 := by
  rcases ws_n5 h2 h6 with rfl | rfl | rfl | rfl | rfl <;> omega
theorem ws_dm2 {n : Nat} (h2 : 2 ≤ n) (h6 : n ≤ 6) (r : Nat) (h : r % n + 1 = n) : (r + 1) / n = r / n + 1 ∧ (r + 1) % n = 0 ∧ (r + 1) / n * n - 1 = r ∧ (n ≤ r → r / n * n - 1 = r - n) := by
  rcases ws_n5 h2 h6 with rfl | rfl | rfl | rfl | rfl <;> omega
theorem ws_dm3 {n : Nat} (h2 : 2 ≤ n) (h6 : n ≤ 6) (r : Nat) : (r < n → r / n = 0 ∧ r % n = r) ∧ (n ≤ r → 1 ≤ r / n) ∧ (n ≤ r → 0 < r / n * n) ∧ r / n * n ≤ r := by
  rcases ws_n5 h2 h6 with rfl | rfl | rfl | rfl | rfl <;> omega
theorem ws_dm4 {n : Nat} (h2 : 2 ≤ n) (h6 : n ≤ 6) (r : Nat) (h : r / n ≤ n + 1) : r < 48 := by
  rcases ws_n5 h2 h6 with rfl | rfl | rfl | rfl | rfl <;> omega
theorem ws_rd_skip {n : Nat} (h2 : 2 ≤ n) (h6 : n ≤ 6) (A : Nat → Int32) (s : Nat) : ∀ d : Nat, d < n → ws_rd A n (s % n) (s + 1 + d) = A s := by
  intro d
  induction d with
  | zero => intro _; exact if_pos rfl
  | succ d ih =>
    intro hd
    rw [show s + 1 + (d + 1) = (s + 1 + d) + 1 from rfl, ws_rd_s, if_neg (ws_md h2 h6 s d hd)]
    exact ih (by omega)
theorem ws_rd_prev {n : Nat} (h2 : 2 ≤ n) (h6 : n ≤ 6) (A : Nat → Int32) (r : Nat) (h : n ≤ r) : ws_rd A n (r % n) r = A (r - n) := by
  have e := ws_rd_skip h2 h6 A (r - n) (n - 1) (by omega)
  rw [ws_mb h2 h6 r h, show r - n + 1 + (n - 1) = r by omega] at e
  exact e
theorem ws_act_ge (ph : Nat → Int32) (p : Nat) (x : Int32) : ∀ n : Nat, n ≤ p → ws_act (upd ph p x) n = ws_act ph n := by
  intro n
  induction n with
  | zero => intro _; rfl
  | succ n ih =>
    intro h
    show ws_act (upd ph p x) n + ws_b (upd ph p x n) = ws_act ph n + ws_b (ph n)
    rw [ih (by omega), pk_un (show n ≠ p by omega)]
theorem ws_act_upd (ph : Nat → Int32) (p : Nat) (x : Int32) : ∀ n : Nat, p < n → ws_act (upd ph p x) n + ws_b (ph p) = ws_act ph n + ws_b x := by
  intro n
  induction n with
  | zero => intro h; omega
  | succ n ih =>
    intro h
    show ws_act (upd ph p x) n + ws_b (upd ph p x n) + ws_b (ph p) = ws_act ph n + ws_b (ph n) + ws_b x
    by_cases e : p = n
    · subst e
      rw [ws_act_ge ph p x p (Nat.le_refl p), pk_us]
      omega
    · rw [pk_un (show n ≠ p by omega)]
      have := ih (by omega)
      omega
theorem ws_act_0 : ∀ n : Nat, ws_act (fun _ => 0) n = 0 := by
  intro n
  induction n with
  | zero => rfl
  | succ n ih =>
    show ws_act (fun _ => 0) n + ws_b 0 = 0
    rw [ih]
    decide
theorem ws_pig : ∀ (n m : Nat) (f : Nat → Nat), (∀ k, k < m → ∃ j, j < n ∧ f j = k) → m ≤ n := by
  intro n
  induction n with
  | zero =>
    intro m f h
    rcases Nat.eq_zero_or_pos m with z | z
    · omega
    · obtain ⟨j, hj, _⟩ := h 0 z
      omega
  | succ n ih =>
    intro m f h
    by_cases hv : f n < m
    · have := ih (m - 1) (fun j => if f n < f j then f j - 1 else f j) (fun k hk => by
        by_cases hkv : k < f n
        · obtain ⟨j, hj, e⟩ := h k (by omega)
          have hjn : j ≠ n := fun z => by subst z; omega
          refine ⟨j, by omega, ?_⟩
          show (if f n < f j then f j - 1 else f j) = k
          rw [if_neg (by omega)]
          exact e
        · obtain ⟨j, hj, e⟩ := h (k + 1) (by omega)
          have hjn : j ≠ n := fun z => by subst z; omega
          refine ⟨j, by omega, ?_⟩
          show (if f n < f j then f j - 1 else f j) = k
          rw [if_pos (by omega)]
          omega)
      omega
    · have := ih m f (fun k hk => by
        obtain ⟨j, hj, e⟩ := h k hk
        have hjn : j ≠ n := fun z => by subst z; omega
        exact ⟨j, by omega, e⟩)
      omega
