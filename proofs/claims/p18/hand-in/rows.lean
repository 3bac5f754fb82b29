section
/-! the pure picture: counts and last values of a log, latest reads and moves of an operation -/
def ws_cnt (wr : Nat → Int32) (j : Nat) : Nat → Nat
  | 0 => 0
  | v + 1 => if wr v = nI j then ws_cnt wr j v + 1 else ws_cnt wr j v
def ws_last (wr a : Nat → Int32) (j : Nat) : Nat → Int32
  | 0 => 0
  | v + 1 => if wr v = nI j then a v else ws_last wr a j v
def ws_rd (A : Nat → Int32) (n j : Nat) : Nat → Int32
  | 0 => -6
  | s + 1 => if s % n = j then A s else ws_rd A n j s
def ws_mv (wr A : Nat → Int32) (n j : Nat) : Nat → Nat
  | 0 => 0
  | s + 1 => if n ≤ s ∧ s % n = j ∧ ws_cnt wr j (A (s - n)).toNatClampNeg < ws_cnt wr j (A s).toNatClampNeg then s / n + 1 else ws_mv wr A n j s
def ws_b (x : Int32) : Nat := if x = 2 ∨ x = 3 then 1 else 0
def ws_act (ph : Nat → Int32) : Nat → Nat
  | 0 => 0
  | n + 1 => ws_act ph n + ws_b (ph n)
theorem ws_cnt_s (wr : Nat → Int32) (j v : Nat) : ws_cnt wr j (v + 1) = if wr v = nI j then ws_cnt wr j v + 1 else ws_cnt wr j v := rfl
theorem ws_last_s (wr a : Nat → Int32) (j v : Nat) : ws_last wr a j (v + 1) = if wr v = nI j then a v else ws_last wr a j v := rfl
theorem ws_rd_s (A : Nat → Int32) (n j s : Nat) : ws_rd A n j (s + 1) = if s % n = j then A s else ws_rd A n j s := rfl
theorem ws_mv_s (wr A : Nat → Int32) (n j s : Nat) : ws_mv wr A n j (s + 1) = if n ≤ s ∧ s % n = j ∧ ws_cnt wr j (A (s - n)).toNatClampNeg < ws_cnt wr j (A s).toNatClampNeg then s / n + 1 else ws_mv wr A n j s := rfl
theorem ws_cnt_le (wr : Nat → Int32) (j v : Nat) : ws_cnt wr j v ≤ v := by
  induction v with
  | zero => exact Nat.le_refl 0
  | succ v ih =>
    rw [ws_cnt_s]
    split <;> omega
theorem ws_cnt_mono (wr : Nat → Int32) (j a : Nat) : ∀ d : Nat, ws_cnt wr j a ≤ ws_cnt wr j (a + d) := by
  intro d
  induction d with
  | zero => exact Nat.le_refl _
  | succ d ih =>
    rw [show a + (d + 1) = (a + d) + 1 from rfl, ws_cnt_s]
    split <;> omega
theorem ws_cnt_mon (wr : Nat → Int32) (j : Nat) {a b : Nat} (h : a ≤ b) : ws_cnt wr j a ≤ ws_cnt wr j b := by
  have := ws_cnt_mono wr j a (b - a)
  rw [show a + (b - a) = b by omega] at this
  exact this
theorem ws_cnt_upd (wr : Nat → Int32) (w : Nat) (x : Int32) (j : Nat) : ∀ v : Nat, v ≤ w → ws_cnt (upd wr w x) j v = ws_cnt wr j v := by
  intro v
  induction v with
  | zero => intro _; rfl
  | succ v ih =>
    intro h
    rw [ws_cnt_s, ws_cnt_s, ih (by omega), pk_un (show v ≠ w by omega)]
theorem ws_last_upd (wr a : Nat → Int32) (w : Nat) (x y : Int32) (j : Nat) : ∀ v : Nat, v ≤ w → ws_last (upd wr w x) (upd a w y) j v = ws_last wr a j v := by
  intro v
  induction v with
  | zero => intro _; rfl
  | succ v ih =>
    intro h
    rw [ws_last_s, ws_last_s, ih (by omega), pk_un (show v ≠ w by omega), pk_un (show v ≠ w by omega)]
theorem ws_cnt_new (wr : Nat → Int32) (w p j : Nat) (hp : p < 2 ^ 31) (hj : j < 2 ^ 31) : ws_cnt (upd wr w (nI p)) j (w + 1) = if p = j then ws_cnt wr j w + 1 else ws_cnt wr j w := by
  rw [ws_cnt_s, pk_us, ws_cnt_upd wr w (nI p) j w (Nat.le_refl w)]
  by_cases h : p = j
  · rw [if_pos h, if_pos (by rw [h])]
  · rw [if_neg h, if_neg (fun z => h ((nI_eq hp hj).mp z))]
theorem ws_last_new (wr a : Nat → Int32) (w p j : Nat) (y : Int32) (hp : p < 2 ^ 31) (hj : j < 2 ^ 31) : ws_last (upd wr w (nI p)) (upd a w y) j (w + 1) = if p = j then y else ws_last wr a j w := by
  rw [ws_last_s, pk_us, pk_us, ws_last_upd wr a w (nI p) y j w (Nat.le_refl w)]
  by_cases h : p = j
  · rw [if_pos h, if_pos (by rw [h])]
  · rw [if_neg h, if_neg (fun z => h ((nI_eq hp hj).mp z))]
theorem ws_rd_ext {A A' : Nat → Int32} (n j : Nat) : ∀ r : Nat, (∀ s, s < r → A' s = A s) → ws_rd A' n j r = ws_rd A n j r := by
  intro r
  induction r with
  | zero => intro _; rfl
  | succ r ih =>
    intro h
    rw [ws_rd_s, ws_rd_s, ih (fun s hs => h s (by omega)), h r (by omega)]
theorem ws_mv_ext {wr wr' A A' : Nat → Int32} (n j : Nat) : ∀ r : Nat, (∀ s, s < r → ws_cnt wr' j (A' s).toNatClampNeg = ws_cnt wr j (A s).toNatClampNeg) → ws_mv wr' A' n j r = ws_mv wr A n j r := by
  intro r
  induction r with
  | zero => intro _; rfl
  | succ r ih =>
    intro h
    rw [ws_mv_s, ws_mv_s, ih (fun s hs => h s (by omega)), h r (by omega), h (r - n) (by omega)]
theorem ws_mv_le (wr A : Nat → Int32) (n j : Nat) : ∀ r : Nat, ws_mv wr A n j r ≤ r := by
  intro r
  induction r with
  | zero => exact Nat.le_refl 0
  | succ r ih =>
    rw [ws_mv_s]
    have := Nat.div_le_self r n
    split <;> omega
theorem ws_mv_0 (wr A : Nat → Int32) (n j : Nat) : ∀ r : Nat, r ≤ n → ws_mv wr A n j r = 0 := by
  intro r
  induction r with
  | zero => intro _; rfl
  | succ r ih =>
    intro h
    rw [ws_mv_s, if_neg (fun z => by omega)]
    exact ih (by omega)
theorem ws_rd_some (A : Nat → Int32) (n j : Nat) (hj : j < n) : ∀ r : Nat, j < r → ∃ s, s < r ∧ ws_rd A n j r = A s := by
  intro r
  induction r with
  | zero => intro h; omega
  | succ r ih =>
    intro h
    rw [ws_rd_s]
    by_cases e : r % n = j
    · exact ⟨r, by omega, by rw [if_pos e]⟩
    · have hr : j ≠ r := fun z => e (by rw [← z]; exact Nat.mod_eq_of_lt hj)
      obtain ⟨s, hs, es⟩ := ih (by omega)
      exact ⟨s, by omega, by rw [if_neg e, es]⟩
theorem ws_rd_none (A : Nat → Int32) (n j : Nat) : ∀ r : Nat, ws_rd A n j r = -6 ∨ ∃ s, s < r ∧ ws_rd A n j r = A s := by
  intro r
  induction r with
  | zero => exact Or.inl rfl
  | succ r ih =>
    rw [ws_rd_s]
    by_cases e : r % n = j
    · exact Or.inr ⟨r, by omega, by rw [if_pos e]⟩
    · rw [if_neg e]
      rcases ih with h | ⟨s, hs, es⟩
      · exact Or.inl h
      · exact Or.inr ⟨s, by omega, es⟩
theorem ws_n5 {n : Nat} (h2 : 2 ≤ n) (h6 : n ≤ 6) : n = 2 ∨ n = 3 ∨ n = 4 ∨ n = 5 ∨ n = 6 := by omega
theorem ws_md {n : Nat} (h2 : 2 ≤ n) (h6 : n ≤ 6) (s d : Nat) (hd : d + 1 < n) : ¬ (s + 1 + d) % n = s % n := by
  rcases ws_n5 h2 h6 with rfl | rfl | rfl | rfl | rfl <;> omega
theorem ws_mb {n : Nat} (h2 : 2 ≤ n) (h6 : n ≤ 6) (r : Nat) (h : n ≤ r) : (r - n) % n = r % n := by
  rcases ws_n5 h2 h6 with rfl | rfl | rfl | rfl | rfl <;> omega
theorem ws_ml {n : Nat} (h2 : 2 ≤ n) (r : Nat) : r % n < n := Nat.mod_lt r (by omega)
theorem ws_dm1 {n : Nat} (h2 : 2 ≤ n) (h6 : n ≤ 6) (r : Nat) (h : r % n + 1 < n) : (r + 1) / n = r / n ∧ (r + 1) % n = r % n + 1 := by
  rcases ws_n5 h2 h6 with rfl | rfl | rfl | rfl | rfl <;> omega
theorem ws_dm2 {n : Nat} (h2 : 2 ≤ n) (h6 : n ≤ 6) (r : Nat) (h : r % n + 1 = n) : (r + 1) / n = r / n + 1 ∧ (r + 1) % n = 0 ∧ (r + 1) / n * n - 1 = r ∧ (n ≤ r → r / n * n - 1 = r - n) := by
  rcases ws_n5 h2 h6 with rfl | rfl | rfl | rfl | rfl <;> omega
theorem ws_dm3 {n : Nat} (h2 : 2 ≤ n) (h6 : n ≤ 6) (r : Nat) : (r < n → r / n = 0 ∧ r % n = r) ∧ (n ≤ r → 1 ≤ r / n) ∧ (n ≤ r → 0 < r / n * n) ∧ r / n * n ≤ r := by
  rcases ws_n5 h2 h6 with rfl | rfl | rfl | rfl | rfl <;> omega
theorem ws_dm4 {n : Nat} (h2 : 2 ≤ n) (h6 : n ≤ 6) (r : Nat) (h : r / n ≤ n + 1) : r < 48 := by
  rcases ws_n5 h2 h6 with rfl | rfl | rfl | rfl | rfl <;> omega
theorem ws_rd_skip {n : Nat} (h2 : 2 ≤ n) (h6 : n ≤ 6) (A : Nat → Int32) (s : Nat) : ∀ d : Nat, d < n → ws_rd A n (s % n) (s + 1 + d) = A s := by
  intro d
  induction d with
  | zero => intro _; exact if_pos rfl
  | succ d ih =>
    intro hd
    rw [show s + 1 + (d + 1) = (s + 1 + d) + 1 from rfl, ws_rd_s, if_neg (ws_md h2 h6 s d hd)]
    exact ih (by omega)
theorem ws_rd_prev {n : Nat} (h2 : 2 ≤ n) (h6 : n ≤ 6) (A : Nat → Int32) (r : Nat) (h : n ≤ r) : ws_rd A n (r % n) r = A (r - n) := by
  have e := ws_rd_skip h2 h6 A (r - n) (n - 1) (by omega)
  rw [ws_mb h2 h6 r h, show r - n + 1 + (n - 1) = r by omega] at e
  exact e
theorem ws_act_ge (ph : Nat → Int32) (p : Nat) (x : Int32) : ∀ n : Nat, n ≤ p → ws_act (upd ph p x) n = ws_act ph n := by
  intro n
  induction n with
  | zero => intro _; rfl
  | succ n ih =>
    intro h
    show ws_act (upd ph p x) n + ws_b (upd ph p x n) = ws_act ph n + ws_b (ph n)
    rw [ih (by omega), pk_un (show n ≠ p by omega)]
theorem ws_act_upd (ph : Nat → Int32) (p : Nat) (x : Int32) : ∀ n : Nat, p < n → ws_act (upd ph p x) n + ws_b (ph p) = ws_act ph n + ws_b x := by
  intro n
  induction n with
  | zero => intro h; omega
  | succ n ih =>
    intro h
    show ws_act (upd ph p x) n + ws_b (upd ph p x n) + ws_b (ph p) = ws_act ph n + ws_b (ph n) + ws_b x
    by_cases e : p = n
    · subst e
      rw [ws_act_ge ph p x p (Nat.le_refl p), pk_us]
      omega
    · rw [pk_un (show n ≠ p by omega)]
      have := ih (by omega)
      omega
theorem ws_act_0 : ∀ n : Nat, ws_act (fun _ => 0) n = 0 := by
  intro n
  induction n with
  | zero => rfl
  | succ n ih =>
    show ws_act (fun _ => 0) n + ws_b 0 = 0
    rw [ih]
    decide
theorem ws_pig : ∀ (n m : Nat) (f : Nat → Nat), (∀ k, k < m → ∃ j, j < n ∧ f j = k) → m ≤ n := by
  intro n
  induction n with
  | zero =>
    intro m f h
    rcases Nat.eq_zero_or_pos m with z | z
    · omega
    · obtain ⟨j, hj, _⟩ := h 0 z
      omega
  | succ n ih =>
    intro m f h
    by_cases hv : f n < m
    · have := ih (m - 1) (fun j => if f n < f j then f j - 1 else f j) (fun k hk => by
        by_cases hkv : k < f n
        · obtain ⟨j, hj, e⟩ := h k (by omega)
          have hjn : j ≠ n := fun z => by subst z; omega
          refine ⟨j, by omega, ?_⟩
          show (if f n < f j then f j - 1 else f j) = k
          rw [if_neg (by omega)]
          exact e
        · obtain ⟨j, hj, e⟩ := h (k + 1) (by omega)
          have hjn : j ≠ n := fun z => by subst z; omega
          refine ⟨j, by omega, ?_⟩
          show (if f n < f j then f j - 1 else f j) = k
          rw [if_pos (by omega)]
          omega)
      omega
    · have := ih m f (fun k hk => by
        obtain ⟨j, hj, e⟩ := h k hk
        have hjn : j ≠ n := fun z => by subst z; omega
        exact ⟨j, by omega, e⟩)
      omega
end
section
/-! one process's share of the relation, and how a read step moves it -/
def ws_Rds (w : Nat) (A : Nat → Int32) (r : Nat) : Prop := ∀ s, s < r → ∃ a, a ≤ w ∧ A s = nI a
def ws_Tab (n : Nat) (wr A M R : Nat → Int32) (r : Nat) : Prop := ∀ j, j < n → R j = ws_rd A n j r ∧ M j = nI (ws_mv wr A n j r)
def ws_View (w : Nat) (ew vw yv : Int32) : Prop := (ew = -6 ∧ vw = -6) ∨ ∃ e x : Nat, e ≤ w ∧ x ≤ w ∧ ew = nI e ∧ vw = nI x ∧ yv = nI x
def ws_WF (n : Nat) (wr A : Nat → Int32) (r : Nat) : Prop :=
  (∀ c, 2 ≤ c → c < r / n + 1 → ∃ j, j < n ∧ ws_mv wr A n j r = c) ∧
  (∀ j, j < n → j < r → (ws_mv wr A n j r = 0 → ws_cnt wr j (ws_rd A n j r).toNatClampNeg = ws_cnt wr j (A j).toNatClampNeg) ∧ (ws_mv wr A n j r ≠ 0 → ws_cnt wr j (A j).toNatClampNeg < ws_cnt wr j (ws_rd A n j r).toNatClampNeg))
def ws_Go (n : Nat) (wr A : Nat → Int32) (co nx lc : Int32) (F : Nat → Int32) (r : Nat) : Prop :=
  co = nI (r / n + 1) ∧ nx = nI (r % n) ∧ (n ≤ r → lc = A (r / n * n - 1)) ∧ (∀ j, j < n → j < r → F j = nI (ws_cnt wr j (A j).toNatClampNeg)) ∧ ws_WF n wr A r
def ws_P (n w : Nat) (wr A : Nat → Int32) (rd ph ew vw yv co nx lc : Int32) (M F R : Nat → Int32) : Prop :=
  ∃ r t : Nat, r ≤ 64 ∧ t < 4 ∧ rd = nI r ∧ ph = nI t ∧ ws_Rds w A r ∧ ws_Tab n wr A M R r ∧ ws_View w ew vw yv ∧ (t = 3 → ¬ ew = -6) ∧ (t = 1 ∨ t = 2 → ws_Go n wr A co nx lc F r)
theorem ws_Rds_c {w : Nat} {A : Nat → Int32} {r s : Nat} (hw : w ≤ 128) (h : ws_Rds w A r) (hs : s < r) : (A s).toNatClampNeg ≤ w ∧ A s = nI (A s).toNatClampNeg := by
  obtain ⟨a, ha, e⟩ := h s hs
  rw [e, nI_clamp (by omega)]
  exact ⟨ha, rfl⟩
theorem ws_bound {n : Nat} {wr A : Nat → Int32} {r : Nat} (h2 : 2 ≤ n) (h6 : n ≤ 6) (h : ws_WF n wr A r) : r < 48 := by
  have := ws_pig n (r / n - 1) (fun j => ws_mv wr A n j r - 2) (fun k hk => by
    obtain ⟨j, hj, e⟩ := h.1 (k + 2) (by omega) (by omega)
    exact ⟨j, hj, by show ws_mv wr A n j r - 2 = k; omega⟩)
  exact ws_dm4 h2 h6 r (by omega)
theorem ws_neg6 (a : Nat) (h : a < 2 ^ 31) : ¬ nI a = -6 := by
  intro z
  have h1 := congrArg Int32.toInt z
  rw [nI_toInt h, show (-6 : Int32).toInt = -6 from by decide] at h1
  omega
/-- what a process is told does not change by what happens elsewhere -/
theorem ws_P_ext {n w w' : Nat} {wr wr' A A' : Nat → Int32} {rd ph ew vw yv co nx lc : Int32} {M F R M' F' R' : Nat → Int32} (hw : w ≤ w') (hw' : w ≤ 128) (hn : n ≤ 6)
    (hc : ∀ j v, v ≤ w → ws_cnt wr' j v = ws_cnt wr j v) (hA : ∀ s, s < 64 → A' s = A s) (hM : ∀ j, j < 6 → M' j = M j) (hF : ∀ j, j < 6 → F' j = F j) (hR : ∀ j, j < 6 → R' j = R j)
    (h : ws_P n w wr A rd ph ew vw yv co nx lc M F R) : ws_P n w' wr' A' rd ph ew vw yv co nx lc M' F' R' := by
  obtain ⟨r, t, hr, ht, er, et, h1, h2, h3, h4, h5⟩ := h
  have hcA : ∀ j s, s < r → ws_cnt wr' j (A' s).toNatClampNeg = ws_cnt wr j (A s).toNatClampNeg := fun j s hs => by
    rw [hA s (by omega)]
    exact hc j _ (ws_Rds_c hw' h1 hs).1
  have hmv : ∀ j, ws_mv wr' A' n j r = ws_mv wr A n j r := fun j => ws_mv_ext n j r (hcA j)
  have hrd : ∀ j, ws_rd A' n j r = ws_rd A n j r := fun j => ws_rd_ext n j r (fun s hs => hA s (by omega))
  refine ⟨r, t, hr, ht, er, et, ?_, ?_, ?_, h4, ?_⟩
  · intro s hs
    obtain ⟨a, ha, e⟩ := h1 s hs
    exact ⟨a, by omega, by rw [hA s (by omega)]; exact e⟩
  · intro j hj
    rw [hR j (by omega), hM j (by omega), hmv, hrd]
    exact h2 j hj
  · rcases h3 with h | ⟨e, x, he, hx, h⟩
    · exact Or.inl h
    · exact Or.inr ⟨e, x, by omega, by omega, h⟩
  · intro z
    obtain ⟨g1, g2, g3, g4, g5, g6⟩ := h5 z
    refine ⟨g1, g2, ?_, ?_, ?_, ?_⟩
    · intro hnr
      have hp : r / n * n ≤ r := Nat.div_mul_le_self r n
      have hp2 : 0 < r ∨ n = 0 := by omega
      rw [g3 hnr]
      by_cases h0 : r / n * n - 1 < 64
      · exact (hA _ h0).symm
      · omega
    · intro j hj hjr
      rw [hF j (by omega), hcA j j hjr]
      exact g4 j hj hjr
    · intro c c1 c2
      obtain ⟨j, hj, e⟩ := g5 c c1 c2
      exact ⟨j, hj, by rw [hmv]; exact e⟩
    · intro j hj hjr
      rw [hmv, hrd, hcA j j hjr]
      obtain ⟨s, hs, es⟩ := ws_rd_some A n j hj r hjr
      rw [hc j (ws_rd A n j r).toNatClampNeg (by rw [es]; exact (ws_Rds_c hw' h1 hs).1)]
      exact g6 j hj hjr
section
variable {n w r : Nat} {wr A : Nat → Int32}
theorem ws_A_old (s : Nat) (hs : s < r) : upd A r (nI w) s = A s := pk_un (show s ≠ r by omega)
theorem ws_rd_old (j : Nat) : ws_rd (upd A r (nI w)) n j r = ws_rd A n j r := ws_rd_ext n j r (fun s hs => ws_A_old s hs)
theorem ws_mv_old (j : Nat) : ws_mv wr (upd A r (nI w)) n j r = ws_mv wr A n j r := ws_mv_ext n j r (fun s hs => by rw [ws_A_old s hs])
theorem ws_rd_new (j : Nat) : ws_rd (upd A r (nI w)) n j (r + 1) = if r % n = j then nI w else ws_rd A n j r := by
  rw [ws_rd_s, ws_rd_old, pk_us]
theorem ws_mv_new (j : Nat) (hn : 0 < n) (hw : w < 2 ^ 31) : ws_mv wr (upd A r (nI w)) n j (r + 1) = if n ≤ r ∧ r % n = j ∧ ws_cnt wr j (A (r - n)).toNatClampNeg < ws_cnt wr j w then r / n + 1 else ws_mv wr A n j r := by
  rw [ws_mv_s, ws_mv_old, pk_us, nI_clamp hw]
  by_cases h : n ≤ r
  · rw [ws_A_old (r - n) (by omega)]
  · rw [if_neg (fun z => h z.1), if_neg (fun z => h z.1)]
theorem ws_Rds_new (h : ws_Rds w A r) : ws_Rds w (upd A r (nI w)) (r + 1) := by
  intro s hs
  by_cases e : s = r
  · subst e
    exact ⟨w, Nat.le_refl w, pk_us⟩
  · rw [pk_un e]
    exact h s (by omega)
/-- the wait-free part, one read further, the reading not ended by a second move -/
theorem ws_WF_new (h2 : 2 ≤ n) (h6 : n ≤ 6) (hw : w ≤ 128) (hR : ws_Rds w A r) (h : ws_WF n wr A r)
    (hne : n ≤ r → ws_cnt wr (r % n) w < ws_cnt wr (r % n) (A (r % n)).toNatClampNeg + 2)
    (hd : r % n + 1 = n → n ≤ r → ∃ i, i < n ∧ ws_mv wr (upd A r (nI w)) n i (r + 1) = r / n + 1) : ws_WF n wr (upd A r (nI w)) (r + 1) := by
  have hml := ws_ml h2 r
  have hm3 := ws_dm3 h2 h6 r
  have key : ∀ i c, i < n → 2 ≤ c → ws_mv wr A n i r = c → ws_mv wr (upd A r (nI w)) n i (r + 1) = c := by
    intro i c hi hc e
    rw [ws_mv_new i (by omega) (by omega)]
    by_cases z : n ≤ r ∧ r % n = i ∧ ws_cnt wr i (A (r - n)).toNatClampNeg < ws_cnt wr i w
    · obtain ⟨z1, z2, z3⟩ := z
      have b := (h.2 i hi (by omega)).2 (by omega)
      have pv := ws_rd_prev h2 h6 A r z1
      have en := hne z1
      rw [z2] at pv en
      rw [pv] at b
      omega
    · rw [if_neg z]
      exact e
  refine ⟨?_, ?_⟩
  · intro c c1 c2
    by_cases hb : r % n + 1 < n
    · rw [(ws_dm1 h2 h6 r hb).1] at c2
      obtain ⟨i, hi, e⟩ := h.1 c c1 c2
      exact ⟨i, hi, key i c hi c1 e⟩
    · rw [(ws_dm2 h2 h6 r (by omega)).1] at c2
      by_cases hc : c < r / n + 1
      · obtain ⟨i, hi, e⟩ := h.1 c c1 hc
        exact ⟨i, hi, key i c hi c1 e⟩
      · have hnr : n ≤ r := by
          by_cases hq : n ≤ r
          · exact hq
          · have := (hm3.1 (by omega)).1
            omega
        obtain ⟨i, hi, e⟩ := hd (by omega) hnr
        exact ⟨i, hi, by omega⟩
  · intro j hj hjr
    rw [ws_rd_new, ws_mv_new j (by omega) (by omega)]
    by_cases e : r % n = j
    · rw [if_pos e, nI_clamp (by omega)]
      by_cases hnr : n ≤ r
      · have hjlt : j < r := by omega
        have o := h.2 j hj hjlt
        have pv := ws_rd_prev h2 h6 A r hnr
        rw [e] at pv
        rw [pv] at o
        rw [ws_A_old j hjlt]
        have mon := ws_cnt_mon wr j (ws_Rds_c hw hR (show r - n < r by omega)).1
        by_cases q : ws_cnt wr j (A (r - n)).toNatClampNeg < ws_cnt wr j w
        · rw [if_pos ⟨hnr, e, q⟩]
          refine ⟨fun z => by omega, fun _ => ?_⟩
          by_cases m0 : ws_mv wr A n j r = 0
          · have := o.1 m0
            omega
          · have := o.2 m0
            omega
        · rw [if_neg (fun z => q z.2.2)]
          refine ⟨fun z => ?_, fun z => ?_⟩
          · have := o.1 z
            omega
          · have := o.2 z
            omega
      · rw [if_neg (fun z => hnr z.1), ws_mv_0 wr A n j r (by omega)]
        have ej : j = r := by
          have := (hm3.1 (by omega)).2
          omega
        rw [ej, pk_us, nI_clamp (by omega)]
        exact ⟨fun _ => rfl, fun z => absurd rfl z⟩
    · rw [if_neg e, if_neg (fun z => e z.2.1)]
      have hjr2 : j < r := by
        by_cases q : j = r
        · exact absurd (by rw [← q]; exact Nat.mod_eq_of_lt hj) e
        · omega
      rw [ws_A_old j hjr2]
      exact h.2 j hj hjr2
end
end
section
/-! a read step in one process's share of the relation: the tables, and the three ways on -/
theorem ws_loc (f : Nat → Int32) (b k : Nat) (x : Int32) : (fun s => upd f (b + k) x (b + s)) = upd (fun s => f (b + s)) k x := by
  funext s
  by_cases e : s = k
  · subst e
    rw [pk_us, pk_us]
  · rw [pk_un e, pk_un (show b + s ≠ b + k by omega)]
theorem ws_o6 {p q j j' : Nat} (h : q ≠ p) (hj : j < 6) (hj' : j' < 6) : q * 6 + j' ≠ p * 6 + j := by omega
theorem ws_o64 {p q r s : Nat} (h : q ≠ p) (hj : r < 64) (hj' : s < 64) : q * 64 + s ≠ p * 64 + r := by omega
def ws_MN (n w r : Nat) (wr A M : Nat → Int32) : Nat → Int32 := if n ≤ r ∧ ws_cnt wr (r % n) (A (r - n)).toNatClampNeg < ws_cnt wr (r % n) w then upd M (r % n) (nI (r / n + 1)) else M
def ws_FN (n w r : Nat) (wr F : Nat → Int32) : Nat → Int32 := if r < n then upd F (r % n) (nI (ws_cnt wr (r % n) w)) else F
section
variable {n w r : Nat} {wr A M F R : Nat → Int32}
theorem ws_Tab_new (h2 : 2 ≤ n) (hw : w ≤ 128) (h : ws_Tab n wr A M R r) : ws_Tab n wr (upd A r (nI w)) (ws_MN n w r wr A M) (upd R (r % n) (nI w)) (r + 1) := by
  intro j hj
  rw [ws_rd_new, ws_mv_new j (by omega) (by omega)]
  obtain ⟨e1, e2⟩ := h j hj
  refine ⟨?_, ?_⟩
  · by_cases e : r % n = j
    · rw [if_pos e, e, pk_us]
    · rw [if_neg e, pk_un (fun z => e z.symm)]
      exact e1
  · unfold ws_MN
    by_cases e : r % n = j
    · subst e
      by_cases z : n ≤ r ∧ ws_cnt wr (r % n) (A (r - n)).toNatClampNeg < ws_cnt wr (r % n) w
      · rw [if_pos z, if_pos ⟨z.1, rfl, z.2⟩, pk_us]
      · rw [if_neg z, if_neg (fun y => z ⟨y.1, y.2.2⟩)]
        exact e2
    · rw [if_neg (show ¬ (n ≤ r ∧ r % n = j ∧ ws_cnt wr j (A (r - n)).toNatClampNeg < ws_cnt wr j w) from fun y => e y.2.1)]
      split
      · rw [pk_un (fun z => e z.symm)]
        exact e2
      · exact e2
theorem ws_F_new (h2 : 2 ≤ n) (h6 : n ≤ 6) (hw : w ≤ 128) (h : ∀ j, j < n → j < r → F j = nI (ws_cnt wr j (A j).toNatClampNeg)) :
    ∀ j, j < n → j < r + 1 → ws_FN n w r wr F j = nI (ws_cnt wr j (upd A r (nI w) j).toNatClampNeg) := by
  intro j hj hjr
  unfold ws_FN
  by_cases hr : r < n
  · rw [if_pos hr, ((ws_dm3 h2 h6 r).1 hr).2]
    by_cases e : j = r
    · subst e
      rw [pk_us, pk_us, nI_clamp (by omega)]
    · rw [pk_un e, pk_un e]
      exact h j hj (by omega)
  · rw [if_neg hr, pk_un (show j ≠ r by omega)]
    exact h j hj (by omega)
theorem ws_Go_B (h2 : 2 ≤ n) (h6 : n ≤ 6) (hw : w ≤ 128) (hR : ws_Rds w A r) {co nx lc : Int32} (h : ws_Go n wr A co nx lc F r)
    (hne : n ≤ r → ws_cnt wr (r % n) w < ws_cnt wr (r % n) (A (r % n)).toNatClampNeg + 2) (hb : r % n + 1 < n) :
    ws_Go n wr (upd A r (nI w)) co (nI (r % n + 1)) lc (ws_FN n w r wr F) (r + 1) := by
  obtain ⟨g1, g2, g3, g4, g5⟩ := h
  obtain ⟨d1, d2⟩ := ws_dm1 h2 h6 r hb
  refine ⟨by rw [d1]; exact g1, by rw [d2], ?_, ws_F_new h2 h6 hw g4, ws_WF_new h2 h6 hw hR g5 hne (fun z => by omega)⟩
  intro hn
  have d3 := ws_dm3 h2 h6 r
  have hnr : n ≤ r := by
    by_cases q : n ≤ r
    · exact q
    · have := (d3.1 (by omega)).2
      omega
  have d4 := d3.2.2.1 hnr
  have d5 := d3.2.2.2
  rw [d1, g3 hnr, pk_un (show r / n * n - 1 ≠ r by omega)]
theorem ws_Go_D (h2 : 2 ≤ n) (h6 : n ≤ 6) (hw : w ≤ 128) (hR : ws_Rds w A r) {co nx lc : Int32} (h : ws_Go n wr A co nx lc F r)
    (hne : n ≤ r → ws_cnt wr (r % n) w < ws_cnt wr (r % n) (A (r % n)).toNatClampNeg + 2) (hb : r % n + 1 = n)
    (hd : n ≤ r → ∃ i, i < n ∧ ws_mv wr (upd A r (nI w)) n i (r + 1) = r / n + 1) :
    ws_Go n wr (upd A r (nI w)) (nI (r / n + 2)) (nI 0) (nI w) (ws_FN n w r wr F) (r + 1) := by
  obtain ⟨g1, g2, g3, g4, g5⟩ := h
  obtain ⟨d1, d2, d3, d4⟩ := ws_dm2 h2 h6 r hb
  refine ⟨by rw [d1], by rw [d2], ?_, ws_F_new h2 h6 hw g4, ws_WF_new h2 h6 hw hR g5 hne (fun _ => hd)⟩
  intro hn
  rw [d3, pk_us]
theorem ws_P_go (h2 : 2 ≤ n) (hw : w ≤ 128) (hr : r < 64) {t : Nat} (ht : t = 1 ∨ t = 2) (hR : ws_Rds w A r) (hT : ws_Tab n wr A M R r) {ew vw yv co nx lc : Int32} (hV : ws_View w ew vw yv)
    (hg : ws_Go n wr (upd A r (nI w)) co nx lc (ws_FN n w r wr F) (r + 1)) :
    ws_P n w wr (upd A r (nI w)) (nI (r + 1)) (nI t) ew vw yv co nx lc (ws_MN n w r wr A M) (ws_FN n w r wr F) (upd R (r % n) (nI w)) :=
  ⟨r + 1, t, by omega, by omega, rfl, rfl, ws_Rds_new hR, ws_Tab_new h2 hw hT, hV, fun z => by omega, fun _ => hg⟩
theorem ws_P_end (h2 : 2 ≤ n) (hw : w ≤ 128) (hr : r < 64) {t : Nat} (ht : t = 0 ∨ t = 3) (hR : ws_Rds w A r) (hT : ws_Tab n wr A M R r) {x : Nat} (hx : x ≤ w) (co nx lc : Int32) :
    ws_P n w wr (upd A r (nI w)) (nI (r + 1)) (nI t) (nI w) (nI x) (nI x) co nx lc (ws_MN n w r wr A M) (ws_FN n w r wr F) (upd R (r % n) (nI w)) :=
  ⟨r + 1, t, by omega, by omega, rfl, rfl, ws_Rds_new hR, ws_Tab_new h2 hw hT, Or.inr ⟨w, x, Nat.le_refl w, hx, rfl, rfl, rfl⟩, fun _ => ws_neg6 w (by omega), fun z => by omega⟩
end
theorem ws_P_new {n w : Nat} {wr A : Nat → Int32} {yv lc : Int32} {M F R : Nat → Int32} {t : Nat} (h2 : 2 ≤ n) (ht : t = 1 ∨ t = 2)
    (hM : ∀ j, j < 6 → M j = 0) (hR : ∀ j, j < 6 → R j = -6) (h6 : n ≤ 6) : ws_P n w wr A (nI 0) (nI t) (-6) (-6) yv (nI 1) (nI 0) lc M F R := by
  refine ⟨0, t, by omega, by omega, rfl, rfl, fun s hs => by omega, ?_, Or.inl ⟨rfl, rfl⟩, fun z => by omega, fun _ => ?_⟩
  · intro j hj
    exact ⟨hR j (by omega), hM j (by omega)⟩
  · refine ⟨by rw [Nat.zero_div], by rw [Nat.zero_mod], fun z => by omega, fun j _ z => by omega, ?_, fun j _ z => by omega⟩
    intro c c1 c2
    rw [Nat.zero_div] at c2
    omega
end
section
/-! a write step, a begin and the start, in the pure picture -/
def ws_row (f : Nat → Int32) (b k : Nat) : Nat → Int32 := fun x => if b + 6 ≤ x ∧ x < b + 6 + k then f (x - 6) else f x
def ws_fill (f : Nat → Int32) (b k : Nat) (c : Int32) : Nat → Int32 := fun x => if b ≤ x ∧ x < b + k then c else f x
theorem ws_row_0 (f : Nat → Int32) (b : Nat) : ws_row f b 0 = f := by
  funext x
  exact if_neg (by omega)
theorem ws_row_lo (f : Nat → Int32) (b k x : Nat) (h : x < b + 6) : ws_row f b k x = f x := if_neg (by omega)
theorem ws_row_s (f : Nat → Int32) (b k : Nat) (hk : k < 6) : upd (ws_row f b k) (b + 6 + k) (ws_row f b k (b + k)) = ws_row f b (k + 1) := by
  funext x
  rw [ws_row_lo f b k (b + k) (by omega)]
  by_cases e : x = b + 6 + k
  · subst e
    rw [pk_us]
    show _ = if _ then _ else _
    rw [if_pos (by omega), show b + 6 + k - 6 = b + k by omega]
  · rw [pk_un e]
    show (if _ then _ else _) = if _ then _ else _
    by_cases z : b + 6 ≤ x ∧ x < b + 6 + k
    · rw [if_pos z, if_pos (by omega)]
    · rw [if_neg z, if_neg (by omega)]
theorem ws_row_hi (f : Nat → Int32) (b j : Nat) (h : j < 6) : ws_row f b 6 (b + 6 + j) = f (b + j) := by
  show (if _ then _ else _) = _
  rw [if_pos (by omega), show b + 6 + j - 6 = b + j by omega]
theorem ws_fill_0 (f : Nat → Int32) (b : Nat) (c : Int32) : ws_fill f b 0 c = f := by
  funext x
  exact if_neg (by omega)
theorem ws_fill_s (f : Nat → Int32) (b k : Nat) (c : Int32) : upd (ws_fill f b k c) (b + k) c = ws_fill f b (k + 1) c := by
  funext x
  by_cases e : x = b + k
  · subst e
    rw [pk_us]
    show _ = if _ then _ else _
    rw [if_pos (by omega)]
  · rw [pk_un e]
    show (if _ then _ else _) = if _ then _ else _
    by_cases z : b ≤ x ∧ x < b + k
    · rw [if_pos z, if_pos (by omega)]
    · rw [if_neg z, if_neg (by omega)]
theorem ws_fill_in (f : Nat → Int32) (b k : Nat) (c : Int32) (j : Nat) (h : j < k) : ws_fill f b k c (b + j) = c := if_pos (by omega)
theorem ws_fill_out (f : Nat → Int32) (b k : Nat) (c : Int32) (x : Nat) (h : x < b ∨ b + k ≤ x) : ws_fill f b k c x = f x := if_neg (by omega)
def ws_V (w : Nat) (vV vC wr wn : Nat → Int32) : Prop := ∀ v j, v ≤ w → j < 6 → vC (v * 6 + j) = nI (ws_cnt wr j v) ∧ vV (v * 6 + j) = ws_last wr wn j v
def ws_H (n w : Nat) (hV wr ca : Nat → Int32) : Prop := ∀ j, j < n → hV j = ws_last wr ca j w ∧ ∃ h, h ≤ w ∧ hV j = nI h
theorem ws_V_new {w p : Nat} {vV vC wr wn : Nat → Int32} {x : Int32} (hp : p < 6) (h : ws_V w vV vC wr wn) :
    ws_V (w + 1) (upd (ws_row vV (w * 6) 6) (w * 6 + 6 + p) x) (upd (ws_row vC (w * 6) 6) (w * 6 + 6 + p) (nI (ws_cnt wr p w + 1))) (upd wr w (nI p)) (upd wn w x) := by
  intro v j hv hj
  by_cases e : v = w + 1
  · subst e
    obtain ⟨h1, h2⟩ := h w j (Nat.le_refl w) hj
    rw [ws_cnt_new wr w p j (by omega) (by omega), ws_last_new wr wn w p j x (by omega) (by omega), show (w + 1) * 6 + j = w * 6 + 6 + j by omega]
    by_cases z : p = j
    · subst z
      rw [pk_us, pk_us, if_pos rfl, if_pos rfl]
      exact ⟨rfl, rfl⟩
    · rw [pk_un (show w * 6 + 6 + j ≠ w * 6 + 6 + p by omega), pk_un (show w * 6 + 6 + j ≠ w * 6 + 6 + p by omega), if_neg z, if_neg z, ws_row_hi _ _ _ hj, ws_row_hi _ _ _ hj]
      exact ⟨h1, h2⟩
  · obtain ⟨h1, h2⟩ := h v j (by omega) hj
    rw [ws_cnt_upd wr w (nI p) j v (by omega), ws_last_upd wr wn w (nI p) x j v (by omega), pk_un (show v * 6 + j ≠ w * 6 + 6 + p by omega), pk_un (show v * 6 + j ≠ w * 6 + 6 + p by omega), ws_row_lo _ _ _ _ (by omega), ws_row_lo _ _ _ _ (by omega)]
    exact ⟨h1, h2⟩
theorem ws_H_new {n w p x : Nat} {hV wr ca : Nat → Int32} (hp : p < 6) (hn : n ≤ 6) (hx : x ≤ w) (h : ws_H n w hV wr ca) :
    ws_H n (w + 1) (upd hV p (nI x)) (upd wr w (nI p)) (upd ca w (nI x)) := by
  intro j hj
  obtain ⟨h1, y, hy, e⟩ := h j hj
  rw [ws_last_new wr ca w p j (nI x) (by omega) (by omega)]
  by_cases z : p = j
  · subst z
    rw [if_pos rfl, pk_us]
    exact ⟨rfl, x, by omega, rfl⟩
  · rw [if_neg z, pk_un (fun q => z q.symm)]
    exact ⟨h1, y, by omega, e⟩
theorem ws_P_idle {n w : Nat} {wr A : Nat → Int32} {rd ph ew vw yv co nx lc : Int32} {M F R : Nat → Int32} (h : ws_P n w wr A rd ph ew vw yv co nx lc M F R) : ws_P n w wr A rd (nI 0) ew vw yv co nx lc M F R := by
  obtain ⟨r, t, hr, ht, er, et, h1, h2, h3, h4, h5⟩ := h
  exact ⟨r, 0, hr, by omega, er, rfl, h1, h2, h3, fun z => by omega, fun z => by omega⟩
theorem ws_P_init {n w : Nat} {wr A : Nat → Int32} {yv co nx lc : Int32} {M F R : Nat → Int32}
    (hM : ∀ j, j < 6 → M j = 0) (hR : ∀ j, j < 6 → R j = -6) (h6 : n ≤ 6) : ws_P n w wr A (nI 0) (nI 0) (-6) (-6) yv co nx lc M F R := by
  refine ⟨0, 0, by omega, by omega, rfl, rfl, fun s hs => by omega, ?_, Or.inl ⟨rfl, rfl⟩, fun z => by omega, fun z => by omega⟩
  intro j hj
  exact ⟨hR j (by omega), hM j (by omega)⟩
theorem ws_V_init : ws_V 0 (fun _ => 0) (fun _ => 0) (fun _ => 0) (fun _ => 0) := by
  intro v j hv hj
  have e : v = 0 := by omega
  subst e
  exact ⟨rfl, rfl⟩
theorem ws_H_init (n : Nat) : ws_H n 0 (fun _ => 0) (fun _ => 0) (fun _ => 0) := by
  intro j hj
  exact ⟨rfl, 0, Nat.le_refl 0, rfl⟩
end
section
/-! the component's own methods, each with a general post -/
theorem ws_ix (p j : Nat) : nI p * 6 + nI j = nI (p * 6 + j) := by
  rw [show (6 : Int32) = nI 6 from rfl, pk_mul, nI_add]
theorem ws_u {p : Nat} (hp : p < 774) (f : Nat → Int32) (x : Int32) : upd f (nI p).toNatClampNeg x = upd f p x := by rw [nI_clamp (by omega)]
theorem ws_r {p : Nat} (hp : p < 774) (f : Nat → Int32) : f (nI p).toNatClampNeg = f p := by rw [nI_clamp (by omega)]
theorem ws_in {p k : Nat} (hp : p < k) (hk : k < 2 ^ 31 := by decide) : vp_in (nI p) k := vp_in_nI hp hk
theorem wx_pair {post : Int32 → Prop} {p j : Nat} (h : post (nI (p * 6 + j))) : wpX_pair post () (nI p) (nI j) := by
  unfold wpX_pair
  rw [ws_ix]
  exact h
theorem wx_cell {post : Int32 → Prop} {p j : Nat} (h : post (nI (p * 6 + j))) : wpX_cell post () (nI p) (nI j) := by
  unfold wpX_cell
  rw [ws_ix]
  exact h
section
variable {n L w ub : Nat} {vV vC hV H ph st it sw ew lb vw co nx lc mc fc rv : Nat → Int32}
theorem wx_in {post : Int32 → Prop} {p : Nat} (hp : p < n) (hn : n ≤ 6) (h : post 1) : wpX_inRange post ((nI n), (nI L), (nI w), (nI ub), vV, vC, hV, H, ph, st, it, sw, ew, lb, vw, co, nx, lc, mc, fc, rv) (nI p) := br_f (nI_pos (by omega)) (br_f (nI_ge hp (by omega)) h)
theorem wx_out {post : Int32 → Prop} {x : Int32} (hx : x < 0 ∨ nI n ≤ x) (h : post 0) : wpX_inRange post ((nI n), (nI L), (nI w), (nI ub), vV, vC, hV, H, ph, st, it, sw, ew, lb, vw, co, nx, lc, mc, fc, rv) x := by
  by_cases z : x < 0
  · exact br_t z h
  · exact br_f z (br_t (hx.resolve_left z) h)
theorem wx_forget_lp {post : St2 → Prop} {p : Nat} (hp : p < 6) : ∀ d k : Nat, k + d = 6 → post ((nI n), (nI L), (nI w), (nI ub), vV, vC, hV, H, ph, st, it, sw, ew, lb, vw, co, nx, lc, (ws_fill mc (p * 6) 6 0), fc, (ws_fill rv (p * 6) 6 (-6))) →
    wX_forgetOperation_47 post (nI p) (nI n) (nI L) (nI w) (nI ub) (d + 1) (nI k) vV vC hV H ph st it sw ew lb vw co nx lc (ws_fill mc (p * 6) k 0) fc (ws_fill rv (p * 6) k (-6)) := by
  intro d
  induction d with
  | zero =>
    intro k hk h
    have e : k = 6 := by omega
    subst e
    exact br_t (nI_le (a := 6) (b := 6) (by omega) (by omega)) h
  | succ d ih =>
    intro k hk h
    refine br_f (nI_ge (a := k) (b := 6) (by omega) (by omega)) ?_
    refine wx_pair ⟨ws_in (by omega), nm_r (e' := ws_fill mc (p * 6) (k + 1) 0) (by rw [ws_u (by omega)]; exact ws_fill_s mc (p * 6) k 0) ?_⟩
    refine wx_pair ⟨ws_in (by omega), nm_r (e' := ws_fill rv (p * 6) (k + 1) (-6)) (by rw [ws_u (by omega)]; exact ws_fill_s rv (p * 6) k (-6)) ?_⟩
    refine nm_r (nI_1 k) ?_
    exact ih (k + 1) (by omega) h
theorem wx_forget {post : St2 → Prop} {p : Nat} (hp : p < 6) (h : post ((nI n), (nI L), (nI w), (nI ub), vV, vC, hV, H, ph, (upd st p 0), it, sw, (upd ew p (-6)), (upd lb p (-6)), (upd vw p (-6)), (upd co p 1), (upd nx p 0), lc, (ws_fill mc (p * 6) 6 0), fc, (ws_fill rv (p * 6) 6 (-6)))) : wpX_forgetOperation post ((nI n), (nI L), (nI w), (nI ub), vV, vC, hV, H, ph, st, it, sw, ew, lb, vw, co, nx, lc, mc, fc, rv) (nI p) := by
  have i : vp_in (nI p) 6 := ws_in hp
  refine ⟨i, nm_r (ws_u (by omega) st 0) ⟨i, nm_r (ws_u (by omega) ew (-6)) ⟨i, nm_r (ws_u (by omega) lb (-6)) ⟨i, nm_r (ws_u (by omega) vw (-6)) ⟨i, nm_r (ws_u (by omega) co 1) ⟨i, nm_r (ws_u (by omega) nx 0) ⟨7, ?_⟩⟩⟩⟩⟩⟩⟩
  have g := wx_forget_lp (post := post) hp 6 0 rfl h
  rw [ws_fill_0, ws_fill_0] at g
  exact g
theorem wx_begin {post : St2 → Prop} {p : Nat} {t : Int32} (hp : p < 6) (h : post ((nI n), (nI L), (nI w), (nI ub), vV, vC, hV, H, (upd ph p t), (upd st p 0), it, (upd sw p (nI w)), (upd ew p (-6)), (upd lb p (-6)), (upd vw p (-6)), (upd co p 1), (upd nx p 0), lc, (ws_fill mc (p * 6) 6 0), fc, (ws_fill rv (p * 6) 6 (-6)))) : wpX_begin post ((nI n), (nI L), (nI w), (nI ub), vV, vC, hV, H, ph, st, it, sw, ew, lb, vw, co, nx, lc, mc, fc, rv) (nI p) t := by
  have i : vp_in (nI p) 6 := ws_in hp
  unfold wpX_begin
  refine wx_forget hp ?_
  exact ⟨i, nm_r (ws_u (by omega) ph t) ⟨i, nm_r (ws_u (by omega) sw (nI w)) h⟩⟩
theorem wx_write_lp {post : St2 → Prop} {p : Nat} (hp : p < 6) (hw : w < 128) : ∀ d k : Nat, k + d = 6 →
    post ((nI n), (nI L), (nI (w + 1)), (nI ub), (upd (ws_row vV (w * 6) 6) (w * 6 + 6 + p) (it p)), (upd (ws_row vC (w * 6) 6) (w * 6 + 6 + p) (ws_row vC (w * 6) 6 (w * 6 + 6 + p) + 1)), (upd hV p (vw p)), H, (upd ph p 0), st, it, sw, ew, lb, vw, co, nx, lc, mc, fc, rv) →
    wX_write_17 post (nI p) (nI (w * 6)) (nI (w * 6 + 6)) (nI n) (nI L) (nI w) (nI ub) (d + 1) (nI k) (ws_row vV (w * 6) k) (ws_row vC (w * 6) k) hV H ph st it sw ew lb vw co nx lc mc fc rv := by
  intro d
  have i : vp_in (nI p) 6 := ws_in hp
  induction d with
  | zero =>
    intro k hk h
    have e : k = 6 := by omega
    subst e
    have ii : vp_in (nI (w * 6 + 6) + nI p) 774 := by rw [nI_add]; exact ws_in (by omega)
    refine br_t (nI_le (a := 6) (b := 6) (by omega) (by omega)) ⟨i, ⟨ii, ?_⟩⟩
    refine nm_r (e' := upd (ws_row vV (w * 6) 6) (w * 6 + 6 + p) (it p)) (by rw [nI_add, nI_clamp (by omega), nI_clamp (by omega)]) ⟨ii, ⟨ii, ?_⟩⟩
    refine nm_r (e' := upd (ws_row vC (w * 6) 6) (w * 6 + 6 + p) (ws_row vC (w * 6) 6 (w * 6 + 6 + p) + 1)) (by rw [nI_add, nI_clamp (by omega)]) ⟨i, ⟨i, ?_⟩⟩
    refine nm_r (e' := upd hV p (vw p)) (by rw [nI_clamp (by omega)]) ?_
    refine nm_r (nI_1 w) ⟨i, ?_⟩
    exact nm_r (ws_u (by omega) ph 0) h
  | succ d ih =>
    intro k hk h
    have i1 : vp_in (nI (w * 6) + nI k) 774 := by rw [nI_add]; exact ws_in (by omega)
    have i2 : vp_in (nI (w * 6 + 6) + nI k) 774 := by rw [nI_add]; exact ws_in (by omega)
    refine br_f (nI_ge (a := k) (b := 6) (by omega) (by omega)) ⟨i1, ⟨i2, ?_⟩⟩
    refine nm_r (e' := ws_row vV (w * 6) (k + 1)) (by rw [nI_add, nI_add, nI_clamp (by omega), nI_clamp (by omega)]; exact ws_row_s vV (w * 6) k (by omega)) ⟨i1, ⟨i2, ?_⟩⟩
    refine nm_r (e' := ws_row vC (w * 6) (k + 1)) (by rw [nI_add, nI_add, nI_clamp (by omega), nI_clamp (by omega)]; exact ws_row_s vC (w * 6) k (by omega)) ?_
    refine nm_r (nI_1 k) ?_
    exact ih (k + 1) (by omega) h
theorem wx_write {post : St2 → Prop} {p : Nat} (hp : p < 6) (hw : w < 128)
    (h : post ((nI n), (nI L), (nI (w + 1)), (nI ub), (upd (ws_row vV (w * 6) 6) (w * 6 + 6 + p) (it p)), (upd (ws_row vC (w * 6) 6) (w * 6 + 6 + p) (ws_row vC (w * 6) 6 (w * 6 + 6 + p) + 1)), (upd hV p (vw p)), H, (upd ph p 0), st, it, sw, ew, lb, vw, co, nx, lc, mc, fc, rv)) : wpX_write post ((nI n), (nI L), (nI w), (nI ub), vV, vC, hV, H, ph, st, it, sw, ew, lb, vw, co, nx, lc, mc, fc, rv) (nI p) := by
  unfold wpX_write
  refine wx_cell (p := w) (j := 0) ?_
  refine nm_r (e' := nI (w * 6 + 6)) (nI_add (w * 6) 6) ⟨7, ?_⟩
  have g := wx_write_lp (post := post) hp hw 6 0 rfl h
  rw [ws_row_0, ws_row_0] at g
  exact g
theorem wx_noteRead {post : St2 → Prop} {p j a c : Nat} (hp : p < 6) (hj : j < 6) (hw : w ≤ 128) (ha : a ≤ 128) (hc : co p = nI c) (hc2 : c < 2 ^ 31)
    (hrv : c ≠ 1 → rv (p * 6 + j) = nI a)
    (h1 : c = 1 → post ((nI n), (nI L), (nI w), (nI ub), vV, vC, hV, H, ph, st, it, sw, ew, lb, vw, co, nx, lc, mc, (upd fc (p * 6 + j) (vC (w * 6 + j))), (upd rv (p * 6 + j) (nI w))))
    (h2 : c ≠ 1 → vC (w * 6 + j) ≤ vC (a * 6 + j) → post ((nI n), (nI L), (nI w), (nI ub), vV, vC, hV, H, ph, st, it, sw, ew, lb, vw, co, nx, lc, mc, fc, (upd rv (p * 6 + j) (nI w))))
    (h3 : c ≠ 1 → ¬ vC (w * 6 + j) ≤ vC (a * 6 + j) → post ((nI n), (nI L), (nI w), (nI ub), vV, vC, hV, H, ph, st, it, sw, ew, lb, vw, co, nx, lc, (upd mc (p * 6 + j) (nI c)), fc, (upd rv (p * 6 + j) (nI w)))) : wpX_noteRead post ((nI n), (nI L), (nI w), (nI ub), vV, vC, hV, H, ph, st, it, sw, ew, lb, vw, co, nx, lc, mc, fc, rv) (nI p) (nI j) := by
  have i36 : vp_in (nI (p * 6 + j)) 36 := ws_in (by omega)
  have ec : co (nI p).toNatClampNeg = 1 ↔ c = 1 := by
    rw [ws_r (by omega) co, hc]
    exact nI_eq (b := 1) hc2 (by decide)
  unfold wpX_noteRead
  refine wx_pair ?_
  refine wx_cell ⟨ws_in (by omega), nm_r (ws_r (by omega) vC) ⟨ws_in hp, ?_⟩⟩
  by_cases z : c = 1
  · exact br_t (ec.mpr z) ⟨i36, nm_r (ws_u (by omega) fc _) ⟨i36, nm_r (ws_u (by omega) rv _) (h1 z)⟩⟩
  · refine br_f (fun y => z (ec.mp y)) ⟨i36, ?_⟩
    rw [ws_r (by omega) rv, hrv z]
    refine wx_cell ⟨ws_in (by omega), ?_⟩
    rw [ws_r (by omega) vC]
    by_cases y : vC (w * 6 + j) ≤ vC (a * 6 + j)
    · exact br_t y ⟨i36, nm_r (ws_u (by omega) rv _) (h2 z y)⟩
    · exact br_f y ⟨ws_in hp, ⟨i36, nm_r (e' := upd mc (p * 6 + j) (nI c)) (by rw [ws_u (by omega), ws_r (by omega) co, hc]) ⟨i36, nm_r (ws_u (by omega) rv _) (h3 z y)⟩⟩⟩
theorem wx_movedTwice {post : Int32 → Prop} {p j : Nat} (hp : p < 6) (hj : j < 6) (hw : w ≤ 128) (h0 : vC (w * 6 + j) - fc (p * 6 + j) < 2 → post 0) (h1 : ¬ vC (w * 6 + j) - fc (p * 6 + j) < 2 → post 1) : wpX_movedTwice post ((nI n), (nI L), (nI w), (nI ub), vV, vC, hV, H, ph, st, it, sw, ew, lb, vw, co, nx, lc, mc, fc, rv) (nI p) (nI j) := by
  unfold wpX_movedTwice
  refine wx_cell ⟨ws_in (by omega), nm_r (ws_r (by omega) vC) ?_⟩
  refine wx_pair ⟨ws_in (by omega), ?_⟩
  rw [ws_r (by omega) fc]
  exact ⟨h0, h1⟩
theorem wx_endReading {post : St2 → Prop} {p : Nat} {x y : Int32} (hp : p < 6)
    (h1 : ph p = 1 → post ((nI n), (nI L), (nI w), (nI ub), vV, vC, hV, H, (upd ph p 0), st, it, sw, (upd ew p (nI w)), (upd lb p y), (upd vw p x), co, nx, lc, mc, fc, rv))
    (h2 : ¬ ph p = 1 → post ((nI n), (nI L), (nI w), (nI ub), vV, vC, hV, H, (upd ph p 3), st, it, sw, (upd ew p (nI w)), (upd lb p y), (upd vw p x), co, nx, lc, mc, fc, rv)) : wpX_endReading post ((nI n), (nI L), (nI w), (nI ub), vV, vC, hV, H, ph, st, it, sw, ew, lb, vw, co, nx, lc, mc, fc, rv) (nI p) x y := by
  have i : vp_in (nI p) 6 := ws_in hp
  refine ⟨i, nm_r (ws_u (by omega) vw x) ⟨i, nm_r (ws_u (by omega) lb y) ⟨i, nm_r (ws_u (by omega) ew (nI w)) ⟨i, ?_⟩⟩⟩⟩
  rw [ws_r (by omega) ph]
  exact ⟨fun z => ⟨i, nm_r (ws_u (by omega) ph 0) (h1 z)⟩, fun z => ⟨i, nm_r (ws_u (by omega) ph 3) (h2 z)⟩⟩
theorem wx_clean_lp {post : Int32 → Prop} {p c : Nat} (hp : p < 6) (hn : n ≤ 6) (hc : co p = nI c) : ∀ d k : Nat, k + d = n →
    ((∃ i, k ≤ i ∧ i < n ∧ mc (p * 6 + i) = nI c) → post 0) → ((∀ i, k ≤ i → i < n → ¬ mc (p * 6 + i) = nI c) → post 1) → wX_collectWasClean_14 post (nI p) (nI n) (nI L) (nI w) (nI ub) vV vC hV H ph st it sw ew lb vw co nx lc mc fc rv (d + 1) (nI k) := by
  intro d
  induction d with
  | zero =>
    intro k hk h0 h1
    exact br_t (nI_le (by omega) (by omega)) (h1 (fun i a b => by omega))
  | succ d ih =>
    intro k hk h0 h1
    refine br_f (nI_ge (by omega) (by omega)) ?_
    refine wx_pair ⟨ws_in (by omega), ⟨ws_in hp, ?_⟩⟩
    rw [ws_r (by omega) mc, ws_r (by omega) co, hc]
    by_cases z : mc (p * 6 + k) = nI c
    · exact br_t z (h0 ⟨k, by omega, by omega, z⟩)
    · refine br_f z (nm_r (nI_1 k) ?_)
      refine ih (k + 1) (by omega) (fun g => ?_) (fun g => ?_)
      · obtain ⟨i, a, b, e⟩ := g
        exact h0 ⟨i, by omega, b, e⟩
      · refine h1 (fun i a b => ?_)
        by_cases q : i = k
        · rw [q]
          exact z
        · exact g i (by omega) b
theorem wx_clean {post : Int32 → Prop} {p c : Nat} (hp : p < 6) (hn : n ≤ 6) (hc : co p = nI c) (hc2 : c < 2 ^ 31)
    (h0 : (c = 1 ∨ ∃ i, i < n ∧ mc (p * 6 + i) = nI c) → post 0) (h1 : c ≠ 1 → (∀ i, i < n → ¬ mc (p * 6 + i) = nI c) → post 1) : wpX_collectWasClean post ((nI n), (nI L), (nI w), (nI ub), vV, vC, hV, H, ph, st, it, sw, ew, lb, vw, co, nx, lc, mc, fc, rv) (nI p) := by
  have ec : co (nI p).toNatClampNeg = 1 ↔ c = 1 := by
    rw [ws_r (by omega) co, hc]
    exact nI_eq (b := 1) hc2 (by decide)
  refine ⟨ws_in hp, ?_⟩
  by_cases z : c = 1
  · exact br_t (ec.mpr z) (h0 (Or.inl z))
  · refine br_f (fun y => z (ec.mp y)) ⟨n + 1, ?_⟩
    refine wx_clean_lp hp hn hc n 0 (by omega) (fun g => ?_) (fun g => ?_)
    · obtain ⟨i, _, b, e⟩ := g
      exact h0 (Or.inr ⟨i, b, e⟩)
    · exact h1 z (fun i b => g i (by omega) b)
theorem wx_next {post : St2 → Prop} {p : Nat} (hp : p < 6) (h : post ((nI n), (nI L), (nI w), (nI ub), vV, vC, hV, H, ph, st, it, sw, ew, lb, vw, (upd co p (co p + 1)), (upd nx p 0), (upd lc p (nI w)), mc, fc, rv)) : wpX_startNextCollect post ((nI n), (nI L), (nI w), (nI ub), vV, vC, hV, H, ph, st, it, sw, ew, lb, vw, co, nx, lc, mc, fc, rv) (nI p) := by
  have i : vp_in (nI p) 6 := ws_in hp
  exact ⟨i, nm_r (ws_u (by omega) lc (nI w)) ⟨i, ⟨i, nm_r (e' := upd co p (co p + 1)) (by rw [nI_clamp (by omega)]) ⟨i, nm_r (ws_u (by omega) nx 0) h⟩⟩⟩⟩
end
end
section
/-! rows pasted from the kit's laws to paste -/
theorem wb_tb (n : Nat) : (lN n).toBitVec = BitVec.ofNat 64 n := rfl
theorem wb_inj {a b : Int64} (h : a.toBitVec = b.toBitVec) : a = b := Int64.toBitVec_inj.mp h
theorem wb_tn {n : Nat} (h : n < 2 ^ 64) : (lN n).toBitVec.toNat = n := by rw [wb_tb, BitVec.toNat_ofNat, Nat.mod_eq_of_lt h]
theorem wb_of (x : Int64) : ∃ n, n < 2 ^ 64 ∧ x = lN n := ⟨x.toBitVec.toNat, x.toBitVec.isLt, wb_inj (by rw [wb_tb]; simp)⟩
theorem wb_of32 (x : Int32) : ∃ n, n < 2 ^ 32 ∧ x = nI n := ⟨x.toBitVec.toNat, x.toBitVec.isLt, Int32.toBitVec_inj.mp (by show _ = BitVec.ofNat 32 _; simp)⟩
theorem wb_c : ∀ k, k < 64 → ((nI k).toInt64 &&& 63) = lN k := by decide +kernel
theorem wb_cu : ∀ k, k < 64 → ((nI k).toInt64.toUInt64 &&& Int64.toUInt64 63) = UInt64.ofNat k := by decide +kernel
theorem wb_sm : ∀ k, k < 64 → (BitVec.ofNat 64 k).smod 64 = BitVec.ofNat 64 k := by decide +kernel
theorem wb_pw {a b : Nat} (h : a ≤ b) : 2 ^ b = 2 ^ a * 2 ^ (b - a) := by rw [← Nat.pow_add]; congr 1; omega
theorem wb_lt2 {a b : Nat} (h : a < b) : 2 ^ a < 2 ^ b := Nat.pow_lt_pow_right (by decide) h
theorem wb_mod (n : Nat) : lN n = lN (n % 2 ^ 64) := wb_inj (by rw [wb_tb, wb_tb]; apply BitVec.eq_of_toNat_eq; rw [BitVec.toNat_ofNat, BitVec.toNat_ofNat, Nat.mod_mod])
theorem wb_shr {n k : Nat} (hn : n < 2 ^ 64) (hk : k < 64) : ((lN n).toUInt64 >>> ((nI k).toInt64.toUInt64 &&& Int64.toUInt64 63)).toInt64 = lN (n / 2 ^ k) := by
  rw [wb_cu k hk]
  apply wb_inj
  apply BitVec.eq_of_toNat_eq
  show ((lN n).toUInt64 >>> UInt64.ofNat k).toNat = (BitVec.ofNat 64 _).toNat
  have h1 : (UInt64.ofNat k).toNat = k := by
    show (BitVec.ofNat 64 k).toNat = k
    rw [BitVec.toNat_ofNat, Nat.mod_eq_of_lt (by omega)]
  have h2 : (lN n).toUInt64.toNat = n := wb_tn hn
  rw [UInt64.toNat_shiftRight, h1, h2, Nat.mod_eq_of_lt hk, Nat.shiftRight_eq_div_pow, BitVec.toNat_ofNat, Nat.mod_eq_of_lt (Nat.lt_of_le_of_lt (Nat.div_le_self _ _) hn)]
theorem wb_shl (n : Nat) {k : Nat} (hk : k < 64) : lN n <<< ((nI k).toInt64 &&& 63) = lN (n * 2 ^ k) := by
  rw [wb_c k hk]
  apply wb_inj
  rw [Int64.toBitVec_shiftLeft, wb_tb, wb_tb, wb_tb, wb_sm k hk]
  apply BitVec.eq_of_toNat_eq
  rw [BitVec.shiftLeft_eq', BitVec.toNat_shiftLeft, BitVec.toNat_ofNat, BitVec.toNat_ofNat, BitVec.toNat_ofNat, Nat.mod_eq_of_lt (show k < 2 ^ 64 by omega), Nat.shiftLeft_eq, Nat.mul_mod, Nat.mod_mod, ← Nat.mul_mod]
theorem wb_and {a b : Nat} (ha : a < 2 ^ 64) (hb : b < 2 ^ 64) : lN a &&& lN b = lN (a &&& b) := by
  apply wb_inj
  rw [Int64.toBitVec_and, wb_tb, wb_tb, wb_tb]
  apply BitVec.eq_of_toNat_eq
  rw [BitVec.toNat_and, BitVec.toNat_ofNat, BitVec.toNat_ofNat, BitVec.toNat_ofNat, Nat.mod_eq_of_lt ha, Nat.mod_eq_of_lt hb, Nat.mod_eq_of_lt (Nat.and_lt_two_pow _ hb)]
theorem wb_or {a b : Nat} (ha : a < 2 ^ 64) (hb : b < 2 ^ 64) : lN a ||| lN b = lN (a ||| b) := by
  apply wb_inj
  rw [Int64.toBitVec_or, wb_tb, wb_tb, wb_tb]
  apply BitVec.eq_of_toNat_eq
  rw [BitVec.toNat_or, BitVec.toNat_ofNat, BitVec.toNat_ofNat, BitVec.toNat_ofNat, Nat.mod_eq_of_lt ha, Nat.mod_eq_of_lt hb, Nat.mod_eq_of_lt (Nat.or_lt_two_pow ha hb)]
theorem wb_mask {n k : Nat} (hn : n < 2 ^ 64) (hk : k < 64) : lN n &&& lN (2 ^ k - 1) = lN (n % 2 ^ k) := by
  rw [wb_and hn (by have := wb_lt2 hk; omega), Nat.and_two_pow_sub_one_eq_mod]
theorem u_tn {n : Nat} (h : n < 2 ^ 64) : (UInt64.ofNat n).toNat = n := Nat.mod_eq_of_lt h
theorem g_and {a b c : Nat} (ha : a < 2 ^ 64) (hb : b < 2 ^ 64) (hc : a &&& b = c) : lN a &&& lN b = lN c := by
  subst hc
  have h : UInt64.ofNat a &&& UInt64.ofNat b = UInt64.ofNat (a &&& b) := UInt64.toNat_inj.mp (by rw [UInt64.toNat_and, u_tn ha, u_tn hb, u_tn (Nat.and_lt_two_pow a hb)])
  have h2 := congrArg UInt64.toInt64 h
  exact h2
theorem g_and1 {a : Nat} (ha : a < 2 ^ 64) : lN a &&& 1 = lN (a % 2) := g_and (b := 1) ha (by decide) (Nat.and_two_pow_sub_one_eq_mod a 1)
theorem g_mask {a s p : Nat} (hp : 2 ^ s = p) (hs : s < 64) (ha : a < 2 ^ 64) : lN a &&& lN (p - 1) = lN (a % p) := by
  subst hp
  have := Nat.pow_lt_pow_right (show 1 < 2 by decide) hs
  exact g_and ha (by omega) (Nat.and_two_pow_sub_one_eq_mod a s)
theorem g_or {k p a b : Nat} (hp : 2 ^ k = p) (ha : a < p) (h : b * p + a < 2 ^ 64) : lN (b * p) ||| lN a = lN (b * p + a) := by
  subst hp
  have h1 : b * 2 ^ k ||| a = b * 2 ^ k + a := by rw [← Nat.shiftLeft_eq, Nat.shiftLeft_add_eq_or_of_lt ha]
  have h3 : UInt64.ofNat (b * 2 ^ k) ||| UInt64.ofNat a = UInt64.ofNat (b * 2 ^ k + a) := UInt64.toNat_inj.mp (by rw [UInt64.toNat_or, u_tn (by omega), u_tn (by omega), u_tn h, h1])
  have h2 := congrArg UInt64.toInt64 h3
  exact h2
theorem g_or' {k p a b : Nat} (hp : 2 ^ k = p) (ha : a < p) (h : a + b * p < 2 ^ 64) : lN a ||| lN (b * p) = lN (a + b * p) := by
  rw [Int64.or_comm, g_or hp ha (by omega), Nat.add_comm]
end
section
/-! a read step of each side, in the words of the pure picture -/
def ws_MG (n w r b : Nat) (wr A mc : Nat → Int32) : Nat → Int32 := if n ≤ r ∧ ws_cnt wr (r % n) (A (r - n)).toNatClampNeg < ws_cnt wr (r % n) w then upd mc (b + r % n) (nI (r / n + 1)) else mc
def ws_FG (n w r b : Nat) (wr fc : Nat → Int32) : Nat → Int32 := if r < n then upd fc (b + r % n) (nI (ws_cnt wr (r % n) w)) else fc
theorem ws_MG_loc (n w r b : Nat) (wr A mc : Nat → Int32) : (fun i => ws_MG n w r b wr A mc (b + i)) = ws_MN n w r wr A (fun i => mc (b + i)) := by
  unfold ws_MG ws_MN
  split
  · exact ws_loc mc b (r % n) _
  · rfl
theorem ws_FG_loc (n w r b : Nat) (wr fc : Nat → Int32) : (fun i => ws_FG n w r b wr fc (b + i)) = ws_FN n w r wr (fun i => fc (b + i)) := by
  unfold ws_FG ws_FN
  split
  · exact ws_loc fc b (r % n) _
  · rfl
theorem ws_MG_o (n w r b : Nat) (wr A mc : Nat → Int32) (x : Nat) (h : x ≠ b + r % n) : ws_MG n w r b wr A mc x = mc x := by
  unfold ws_MG
  split
  · exact pk_un h
  · rfl
theorem ws_FG_o (n w r b : Nat) (wr fc : Nat → Int32) (x : Nat) (h : x ≠ b + r % n) : ws_FG n w r b wr fc x = fc x := by
  unfold ws_FG
  split
  · exact pk_un h
  · rfl
section
variable {n L w ub : Nat} {vV vC hV H ph st it sw ew lb vw co nx lc mc fc rv : Nat → Int32} {wr wn A : Nat → Int32} {p r : Nat}
theorem wx_note {post : St2 → Prop} (hp : p < 6) (h2 : 2 ≤ n) (h6 : n ≤ 6) (hw : w ≤ 128) (hr : r < 64) (hV' : ws_V w vV vC wr wn) (hR : ws_Rds w A r) (hc : co p = nI (r / n + 1))
    (hrv : rv (p * 6 + r % n) = ws_rd A n (r % n) r)
    (h : post ((nI n), (nI L), (nI w), (nI ub), vV, vC, hV, H, ph, st, it, sw, ew, lb, vw, co, nx, lc, (ws_MG n w r (p * 6) wr A mc), (ws_FG n w r (p * 6) wr fc), (upd rv (p * 6 + r % n) (nI w)))) : wpX_noteRead post ((nI n), (nI L), (nI w), (nI ub), vV, vC, hV, H, ph, st, it, sw, ew, lb, vw, co, nx, lc, mc, fc, rv) (nI p) (nI (r % n)) := by
  have hml := ws_ml h2 r
  have d3 := ws_dm3 h2 h6 r
  have dl := Nat.div_le_self r n
  have eq := (hV' w (r % n) (Nat.le_refl w) (by omega)).1
  unfold ws_MG ws_FG at h
  by_cases z : n ≤ r
  · obtain ⟨b1, b2⟩ := ws_Rds_c hw hR (show r - n < r by omega)
    have ea := (hV' (A (r - n)).toNatClampNeg (r % n) b1 (by omega)).1
    have c1 := ws_cnt_le wr (r % n) w
    have c2 := ws_cnt_le wr (r % n) (A (r - n)).toNatClampNeg
    have d4 := d3.2.1 z
    refine wx_noteRead (a := (A (r - n)).toNatClampNeg) (c := r / n + 1) hp (by omega) hw (by omega) hc (by omega) (fun _ => by rw [hrv, ws_rd_prev h2 h6 A r z]; exact b2) (fun y => by omega) (fun _ y => ?_) (fun _ y => ?_)
    · rw [eq, ea, nI_leI (by omega) (by omega)] at y
      rw [if_neg (by omega), if_neg (by omega)] at h
      exact h
    · rw [eq, ea, nI_leI (by omega) (by omega)] at y
      rw [if_pos ⟨z, by omega⟩, if_neg (by omega)] at h
      exact h
  · have d4 := d3.1 (by omega)
    refine wx_noteRead (a := 0) (c := r / n + 1) hp (by omega) hw (by omega) hc (by omega) (fun y => by omega) (fun _ => ?_) (fun y => by omega) (fun y => by omega)
    rw [if_neg (fun y => z y.1), if_pos (by omega)] at h
    rw [eq]
    exact h
theorem wx_twice {post : Int32 → Prop} (hp : p < 6) (h2 : 2 ≤ n) (h6 : n ≤ 6) (hw : w ≤ 128) (hV' : ws_V w vV vC wr wn) (hR : ws_Rds w A r)
    (hF : ∀ j, j < n → j < r → fc (p * 6 + j) = nI (ws_cnt wr j (A j).toNatClampNeg))
    (h0 : (r < n ∨ ws_cnt wr (r % n) w < ws_cnt wr (r % n) (A (r % n)).toNatClampNeg + 2) → post 0)
    (h1 : n ≤ r → ws_cnt wr (r % n) (A (r % n)).toNatClampNeg + 2 ≤ ws_cnt wr (r % n) w → post 1) : wpX_movedTwice post ((nI n), (nI L), (nI w), (nI ub), vV, vC, hV, H, ph, st, it, sw, ew, lb, vw, co, nx, lc, mc, (ws_FG n w r (p * 6) wr fc), rv) (nI p) (nI (r % n)) := by
  have hml := ws_ml h2 r
  have eq := (hV' w (r % n) (Nat.le_refl w) (by omega)).1
  have c1 := ws_cnt_le wr (r % n) w
  by_cases z : n ≤ r
  · have m := ws_cnt_mon wr (r % n) (ws_Rds_c hw hR (show r % n < r by omega)).1
    have ef : ws_FG n w r (p * 6) wr fc (p * 6 + r % n) = nI (ws_cnt wr (r % n) (A (r % n)).toNatClampNeg) := by
      unfold ws_FG
      rw [if_neg (by omega)]
      exact hF (r % n) (by omega) (by omega)
    have e : vC (w * 6 + r % n) - ws_FG n w r (p * 6) wr fc (p * 6 + r % n) < 2 ↔ ws_cnt wr (r % n) w - ws_cnt wr (r % n) (A (r % n)).toNatClampNeg < 2 := by
      rw [eq, ef, pk_sub m]
      exact nI_ltI (b := 2) (by omega) (by decide)
    refine wx_movedTwice hp (by omega) hw (fun y => h0 (Or.inr ?_)) (fun y => h1 z ?_)
    · have := e.mp y
      omega
    · have : ¬ ws_cnt wr (r % n) w - ws_cnt wr (r % n) (A (r % n)).toNatClampNeg < 2 := fun q => y (e.mpr q)
      omega
  · have e : vC (w * 6 + r % n) - ws_FG n w r (p * 6) wr fc (p * 6 + r % n) < 2 := by
      unfold ws_FG
      rw [if_pos (by omega), pk_us, eq, Int32.sub_self]
      decide
    exact wx_movedTwice hp (by omega) hw (fun _ => h0 (Or.inl (by omega))) (fun y => absurd e y)
theorem wx_end {post : St2 → Prop} {t t' : Nat} {x y : Int32} (hp : p < 6) (et : ph p = nI t) (ht : (t = 1 ∧ t' = 0) ∨ (t = 2 ∧ t' = 3))
    (h : post ((nI n), (nI L), (nI w), (nI ub), vV, vC, hV, H, (upd ph p (nI t')), st, it, sw, (upd ew p (nI w)), (upd lb p y), (upd vw p x), co, nx, lc, mc, fc, rv)) : wpX_endReading post ((nI n), (nI L), (nI w), (nI ub), vV, vC, hV, H, ph, st, it, sw, ew, lb, vw, co, nx, lc, mc, fc, rv) (nI p) x y := by
  refine wx_endReading hp (fun z => ?_) (fun z => ?_)
  · rcases ht with ⟨rfl, rfl⟩ | ⟨rfl, rfl⟩
    · exact h
    · rw [et] at z
      exact absurd z (by decide)
  · rcases ht with ⟨rfl, rfl⟩ | ⟨rfl, rfl⟩
    · exact absurd et z
    · exact h
theorem wx_read {post : St2 → Prop} {t t' : Nat} (hp : p < 6) (h2 : 2 ≤ n) (h6 : n ≤ 6) (hw : w ≤ 128) (hr : r < 64) (hV' : ws_V w vV vC wr wn) (hR : ws_Rds w A r)
    (hT : ws_Tab n wr A (fun j => mc (p * 6 + j)) (fun j => rv (p * 6 + j)) r) (hG : ws_Go n wr A (co p) (nx p) (lc p) (fun j => fc (p * 6 + j)) r)
    (et : ph p = nI t) (ht : (t = 1 ∧ t' = 0) ∨ (t = 2 ∧ t' = 3))
    (hA : n ≤ r → ws_cnt wr (r % n) (A (r % n)).toNatClampNeg + 2 ≤ ws_cnt wr (r % n) w →
      post ((nI n), (nI L), (nI w), (nI ub), vV, vC, hV, H, (upd ph p (nI t')), st, it, sw, (upd ew p (nI w)), (upd lb p (nI (r % n))), (upd vw p (hV (r % n))), co, nx, lc, (ws_MG n w r (p * 6) wr A mc), (ws_FG n w r (p * 6) wr fc), (upd rv (p * 6 + r % n) (nI w))))
    (hB : (r < n ∨ ws_cnt wr (r % n) w < ws_cnt wr (r % n) (A (r % n)).toNatClampNeg + 2) → r % n + 1 < n →
      post ((nI n), (nI L), (nI w), (nI ub), vV, vC, hV, H, ph, st, it, sw, ew, lb, vw, co, (upd nx p (nI (r % n + 1))), lc, (ws_MG n w r (p * 6) wr A mc), (ws_FG n w r (p * 6) wr fc), (upd rv (p * 6 + r % n) (nI w))))
    (hC : n ≤ r → ws_cnt wr (r % n) w < ws_cnt wr (r % n) (A (r % n)).toNatClampNeg + 2 → r % n + 1 = n → (∀ i, i < n → ¬ ws_mv wr (upd A r (nI w)) n i (r + 1) = r / n + 1) →
      post ((nI n), (nI L), (nI w), (nI ub), vV, vC, hV, H, (upd ph p (nI t')), st, it, sw, (upd ew p (nI w)), (upd lb p (-7)), (upd vw p (lc p)), co, nx, lc, (ws_MG n w r (p * 6) wr A mc), (ws_FG n w r (p * 6) wr fc), (upd rv (p * 6 + r % n) (nI w))))
    (hD : (r < n ∨ ws_cnt wr (r % n) w < ws_cnt wr (r % n) (A (r % n)).toNatClampNeg + 2) → r % n + 1 = n → (r < n ∨ ∃ i, i < n ∧ ws_mv wr (upd A r (nI w)) n i (r + 1) = r / n + 1) →
      post ((nI n), (nI L), (nI w), (nI ub), vV, vC, hV, H, ph, st, it, sw, ew, lb, vw, (upd co p (nI (r / n + 2))), (upd nx p 0), (upd lc p (nI w)), (ws_MG n w r (p * 6) wr A mc), (ws_FG n w r (p * 6) wr fc), (upd rv (p * 6 + r % n) (nI w)))) :
    wpX_read post ((nI n), (nI L), (nI w), (nI ub), vV, vC, hV, H, ph, st, it, sw, ew, lb, vw, co, nx, lc, mc, fc, rv) (nI p) (nI (r % n)) := by
  have hml := ws_ml h2 r
  have dl := Nat.div_le_self r n
  have d3 := ws_dm3 h2 h6 r
  obtain ⟨g1, g2, g3, g4, g5⟩ := hG
  unfold wpX_read
  refine wx_note hp h2 h6 hw hr hV' hR g1 (hT (r % n) hml).1 ?_
  have e1 : (nI n - 1 : Int32) = nI (n - 1) := by
    rw [show n = (n - 1) + 1 by omega, nI_pred]
    rfl
  refine wx_twice hp h2 h6 hw hV' hR g4 (fun y => br_t rfl ?_) (fun y1 y2 => br_f (by decide) ⟨ws_in (by omega), ?_⟩)
  · rw [e1]
    refine pk_le (n - 1) (r % n) (fun q => ?_) (fun q => ⟨ws_in hp, nm_r (e' := upd nx p (nI (r % n + 1))) (by rw [ws_u (by omega), nI_1]) (hB y (by omega))⟩)
    have tab : ∀ i, i < n → (ws_MG n w r (p * 6) wr A mc (p * 6 + i) = nI (r / n + 1) ↔ ws_mv wr (upd A r (nI w)) n i (r + 1) = r / n + 1) := by
      intro i hi
      have a := (ws_Tab_new h2 hw hT i hi).2
      rw [← ws_MG_loc] at a
      dsimp only at a
      have b := ws_mv_le wr (upd A r (nI w)) n i (r + 1)
      rw [a]
      exact nI_eq (by omega) (by omega)
    refine wx_clean (c := r / n + 1) hp h6 g1 (by omega) (fun s => br_t rfl ?_) (fun s1 s2 => br_f (by decide) ⟨ws_in hp, ?_⟩)
    · refine wx_next hp ?_
      rw [g1, nI_1]
      refine hD y (by omega) ?_
      rcases s with s | ⟨i, hi, s⟩
      · refine Or.inl ?_
        by_cases c : n ≤ r
        · have := d3.2.1 c
          omega
        · omega
      · exact Or.inr ⟨i, hi, (tab i hi).mp s⟩
    · have hnr : n ≤ r := by
        by_cases c : n ≤ r
        · exact c
        · have := (d3.1 (by omega)).1
          omega
      rw [ws_r (by omega) lc]
      exact wx_end hp et ht (hC hnr (by omega) (by omega) (fun i hi c => s2 i hi ((tab i hi).mpr c)))
  · rw [ws_r (by omega) hV]
    exact wx_end hp et ht (hA y1 y2)
end
end
section
/-! a step of the component -/
section
variable {n L w ub : Nat} {vV vC hV H ph st it sw ew lb vw co nx lc mc fc rv : Nat → Int32} {p r : Nat}
theorem wx_stepW {post : St2 → Prop} (hp : p < 6) (hw : w < 128) (et : ph p = 3)
    (h : post ((nI n), (nI L), (nI (w + 1)), (nI ub), (upd (ws_row vV (w * 6) 6) (w * 6 + 6 + p) (it p)), (upd (ws_row vC (w * 6) 6) (w * 6 + 6 + p) (ws_row vC (w * 6) 6 (w * 6 + 6 + p) + 1)), (upd hV p (vw p)), H, (upd ph p 0), (upd st p (st p + 1)), it, sw, ew, lb, vw, co, nx, lc, mc, fc, rv)) : wpX_takeStep post ((nI n), (nI L), (nI w), (nI ub), vV, vC, hV, H, ph, st, it, sw, ew, lb, vw, co, nx, lc, mc, fc, rv) (nI p) := by
  have i : vp_in (nI p) 6 := ws_in hp
  refine ⟨i, ⟨i, nm_r (e' := upd st p (st p + 1)) (by rw [nI_clamp (by omega)]) ⟨i, ?_⟩⟩⟩
  refine br_t (by rw [ws_r (by omega) ph]; exact et) ?_
  exact wx_write hp hw h
theorem wx_stepR {post : St2 → Prop} {j : Nat} (hp : p < 6) (et : ¬ ph p = 3) (ej : nx p = nI j) (h : wpX_read post ((nI n), (nI L), (nI w), (nI ub), vV, vC, hV, H, ph, (upd st p (st p + 1)), it, sw, ew, lb, vw, co, nx, lc, mc, fc, rv) (nI p) (nI j)) : wpX_takeStep post ((nI n), (nI L), (nI w), (nI ub), vV, vC, hV, H, ph, st, it, sw, ew, lb, vw, co, nx, lc, mc, fc, rv) (nI p) := by
  have i : vp_in (nI p) 6 := ws_in hp
  refine ⟨i, ⟨i, nm_r (e' := upd st p (st p + 1)) (by rw [nI_clamp (by omega)]) ⟨i, ?_⟩⟩⟩
  refine br_f (by rw [ws_r (by omega) ph]; exact et) ⟨i, ?_⟩
  rw [ws_r (by omega) nx, ej]
  exact h
end
end
section
/-! refusals, and who can step -/
theorem ws_t {p : Nat} (hp : p < 774) {f : Nat → Int32} {x : Int32} (e : f p = x) : f (nI p).toNatClampNeg = x := (ws_r hp f).trans e
theorem ws_nt {p : Nat} (hp : p < 774) {f : Nat → Int32} {x : Int32} (e : ¬ f p = x) : ¬ f (nI p).toNatClampNeg = x := fun y => e ((ws_r hp f).symm.trans y)
theorem ws_where {n : Nat} (h6 : n ≤ 6) (x : Int32) : (x < 0 ∨ nI n ≤ x) ∨ ∃ p : Nat, p < n ∧ x = nI p := by
  rcases pk_ix x (show n < 2 ^ 31 by omega) with y | y | y
  · exact Or.inl (Or.inl y)
  · exact Or.inl (Or.inr y)
  · exact Or.inr y
section
variable {n L w ub : Nat} {vV vC hV H ph st it sw ew lb vw co nx lc mc fc rv : Nat → Int32} {p : Nat}
theorem wx_can_t {post : Int32 → Prop} (h6 : n ≤ 6) (hp : p < n) (eh : H p = 0) (e0 : ¬ ph p = 0) (h : post 1) : wpX_canStep post ((nI n), (nI L), (nI w), (nI ub), vV, vC, hV, H, ph, st, it, sw, ew, lb, vw, co, nx, lc, mc, fc, rv) (nI p) := by
  unfold wpX_canStep
  exact wx_in hp h6 (br_f (by decide) ⟨ws_in (by omega), br_t (ws_t (f := H) (by omega) (eh)) ⟨ws_in (by omega), br_f (ws_nt (f := ph) (by omega) (e0)) h⟩⟩)
theorem wx_can_f {post : Int32 → Prop} (h6 : n ≤ 6) (hp : p < 2 ^ 31) (c : n ≤ p ∨ ¬ H p = 0 ∨ ph p = 0) (h : post 0) : wpX_canStep post ((nI n), (nI L), (nI w), (nI ub), vV, vC, hV, H, ph, st, it, sw, ew, lb, vw, co, nx, lc, mc, fc, rv) (nI p) := by
  unfold wpX_canStep
  by_cases z : n ≤ p
  · exact wx_out (Or.inr (nI_le z hp)) (br_t rfl h)
  · refine wx_in (by omega) h6 (br_f (by decide) ⟨ws_in (by omega), ?_⟩)
    by_cases eh : H p = 0
    · exact br_t (ws_t (f := H) (by omega) (eh)) ⟨ws_in (by omega), br_t (ws_t (f := ph) (by omega) ((c.resolve_left z).resolve_left (fun y => y eh))) h⟩
    · exact br_f (ws_nt (f := H) (by omega) (eh)) h
theorem wx_ref_out {post : Int32 → Prop} {x : Int32} (z : x < 0 ∨ nI n ≤ x) (h : post (-1)) : wpX_refusalToBegin post ((nI n), (nI L), (nI w), (nI ub), vV, vC, hV, H, ph, st, it, sw, ew, lb, vw, co, nx, lc, mc, fc, rv) x := by
  unfold wpX_refusalToBegin
  exact wx_out z (br_t rfl h)
theorem wx_ref_h {post : Int32 → Prop} (hp : p < n) (h6 : n ≤ 6) (eh : ¬ H p = 0) (h : post (-2)) : wpX_refusalToBegin post ((nI n), (nI L), (nI w), (nI ub), vV, vC, hV, H, ph, st, it, sw, ew, lb, vw, co, nx, lc, mc, fc, rv) (nI p) := by
  unfold wpX_refusalToBegin
  exact wx_in hp h6 (br_f (by decide) ⟨ws_in (by omega), br_f (ws_nt (f := H) (by omega) eh) h⟩)
theorem wx_ref_b {post : Int32 → Prop} (hp : p < n) (h6 : n ≤ 6) (eh : H p = 0) (e0 : ¬ ph p = 0) (h : post (-3)) : wpX_refusalToBegin post ((nI n), (nI L), (nI w), (nI ub), vV, vC, hV, H, ph, st, it, sw, ew, lb, vw, co, nx, lc, mc, fc, rv) (nI p) := by
  unfold wpX_refusalToBegin
  exact wx_in hp h6 (br_f (by decide) ⟨ws_in (by omega), br_t (ws_t (f := H) (by omega) eh) ⟨ws_in (by omega), br_f (ws_nt (f := ph) (by omega) e0) h⟩⟩)
theorem wx_ref_0 {post : Int32 → Prop} (hp : p < n) (h6 : n ≤ 6) (eh : H p = 0) (e0 : ph p = 0) (h : post 0) : wpX_refusalToBegin post ((nI n), (nI L), (nI w), (nI ub), vV, vC, hV, H, ph, st, it, sw, ew, lb, vw, co, nx, lc, mc, fc, rv) (nI p) := by
  unfold wpX_refusalToBegin
  exact wx_in hp h6 (br_f (by decide) ⟨ws_in (by omega), br_t (ws_t (f := H) (by omega) eh) ⟨ws_in (by omega), br_t (ws_t (f := ph) (by omega) e0) h⟩⟩)
end
end
section
/-! beyond the walks: what each operation, each register and the log hold -/
def wq_mix (c k : Int32) : Int32 :=
  ((c * (-1640531535) + k * (-2048144789)) ^^^ (((c * (-1640531535) + k * (-2048144789)).toUInt32 >>> ((15 : Int32).toUInt32 &&& Int32.toUInt32 31)).toInt32)) * 739982445
def wq_mx (c k : Int32) : Int32 := (wq_mix c k ^^^ ((wq_mix c k).toUInt32 >>> ((13 : Int32).toUInt32 &&& Int32.toUInt32 31)).toInt32) &&& 2147483647
def wq_vI (m j c : Int32) : Int32 := if c = 0 then 0 else if m = 0 then 100 * (j + 1) + c else if m = 1 then c &&& 1 else if m = 2 then 5 else wq_mx c (j + 7) - 1073741824
def wq_val (m : Int32) (j c : Nat) : Int32 := wq_vI m (nI j) (nI c)
theorem wq_val_0 (m : Int32) (j : Nat) : wq_val m j 0 = 0 := by
  unfold wq_val wq_vI
  exact if_pos rfl
def wq_H (n w : Nat) (hV wr : Nat → Int32) : Prop := ∀ j, j < n → ∃ h, h ≤ w ∧ hV j = nI h ∧ ws_cnt wr j w ≤ ws_cnt wr j h + 1
def wq_L (n w : Nat) (m : Int32) (wr wn : Nat → Int32) : Prop := ∀ t, t < w → ∃ j, j < n ∧ wr t = nI j ∧ wn t = wq_val m j (ws_cnt wr j t + 1)
def wq_Vw (s0 w : Nat) (vw ew : Int32) : Prop := ∃ x e : Nat, s0 ≤ x ∧ x ≤ e ∧ e ≤ w ∧ vw = nI x ∧ ew = nI e
def wq_D (w : Nat) (wr : Nat → Int32) (p : Nat) (A : Nat → Int32) (r t k : Nat) (sw ew vw : Int32) : Prop :=
  (t = 0 ∧ k = 0 ∧ vw = -6) ∨ ∃ s0, s0 ≤ w ∧ sw = nI s0 ∧ (∀ s, s < r → s0 ≤ (A s).toNatClampNeg) ∧ (t ≠ 0 → ws_cnt wr p s0 = ws_cnt wr p w) ∧
    (t = 0 ∨ t = 3 → wq_Vw s0 w vw ew) ∧ (t = 1 ∨ t = 2 → vw = -6)
def wq_E (n w : Nat) (m : Int32) (wr : Nat → Int32) (p : Nat) (A : Nat → Int32) (b : Nat) (rd ph st it sw ew vw : Int32) : Prop :=
  ∃ r t k : Nat, rd = nI r ∧ r ≤ 64 ∧ ph = nI t ∧ t < 4 ∧ st = nI k ∧ k ≤ n * (n + 1) + b ∧ b ≤ 1 ∧ (t ≠ 0 → k = r) ∧ (t = 3 → r ≤ n * (n + 1)) ∧
  (t = 2 ∨ t = 3 → b = 1 ∧ it = wq_val m p (ws_cnt wr p w + 1)) ∧
  wq_D w wr p A r t k sw ew vw
theorem wq_last {n w : Nat} {m : Int32} {wr wn : Nat → Int32} (hn : n ≤ 6) (h : wq_L n w m wr wn) (j : Nat) (hj : j < 2 ^ 31) : ∀ v : Nat, v ≤ w → ws_last wr wn j v = wq_val m j (ws_cnt wr j v) := by
  intro v
  induction v with
  | zero => intro _; exact (wq_val_0 m j).symm
  | succ v ih =>
    intro hv
    rw [ws_last_s, ws_cnt_s]
    obtain ⟨i, hi, e1, e2⟩ := h v (by omega)
    by_cases z : wr v = nI j
    · rw [if_pos z, if_pos z]
      have : i = j := (nI_eq (by omega) hj).mp (e1.symm.trans z)
      rw [← this]
      exact e2
    · rw [if_neg z, if_neg z]
      exact ih (by omega)
theorem wq_L_new {n w p : Nat} {m : Int32} {wr wn : Nat → Int32} {x : Int32} (hp : p < n) (h : wq_L n w m wr wn) (hx : x = wq_val m p (ws_cnt wr p w + 1)) : wq_L n (w + 1) m (upd wr w (nI p)) (upd wn w x) := by
  intro t ht
  by_cases e : t = w
  · subst e
    exact ⟨p, hp, pk_us, by rw [pk_us, ws_cnt_upd wr t (nI p) p t (Nat.le_refl t)]; exact hx⟩
  · obtain ⟨j, hj, e1, e2⟩ := h t (by omega)
    exact ⟨j, hj, by rw [pk_un e]; exact e1, by rw [pk_un e, ws_cnt_upd wr w (nI p) j t (by omega)]; exact e2⟩
theorem wq_H_new {n w p x : Nat} {hV wr : Nat → Int32} (hp : p < n) (hn : n ≤ 6) (hx : x ≤ w) (hc : ws_cnt wr p w ≤ ws_cnt wr p x) (h : wq_H n w hV wr) : wq_H n (w + 1) (upd hV p (nI x)) (upd wr w (nI p)) := by
  intro j hj
  rw [ws_cnt_new wr w p j (by omega) (by omega)]
  by_cases e : j = p
  · subst e
    rw [pk_us, if_pos rfl]
    exact ⟨x, by omega, rfl, by rw [ws_cnt_upd wr w (nI j) j x hx]; omega⟩
  · rw [pk_un e, if_neg (fun z => e z.symm)]
    obtain ⟨y, hy, e1, e2⟩ := h j hj
    exact ⟨y, by omega, e1, by rw [ws_cnt_upd wr w (nI p) j y hy]; exact e2⟩
theorem wq_E_ext {n w w' : Nat} {m : Int32} {wr wr' : Nat → Int32} {p : Nat} {A A' : Nat → Int32} {b : Nat} {rd ph st it sw ew vw : Int32} (hw : w ≤ w')
    (hc : ∀ v, v ≤ w → ws_cnt wr' p v = ws_cnt wr p v) (hc2 : ws_cnt wr' p w' = ws_cnt wr p w) (hA : ∀ s, s < 64 → A' s = A s) (h : wq_E n w m wr p A b rd ph st it sw ew vw) : wq_E n w' m wr' p A' b rd ph st it sw ew vw := by
  obtain ⟨r, t, k, h1, h2, h3, h4, h5, h6, h7, h8, h9, h10, h11⟩ := h
  refine ⟨r, t, k, h1, h2, h3, h4, h5, h6, h7, h8, h9, by rw [hc2]; exact h10, ?_⟩
  rcases h11 with z | ⟨s0, a1, a2, a3, a4, a5, a6⟩
  · exact Or.inl z
  · refine Or.inr ⟨s0, by omega, a2, fun s hs => by rw [hA s (by omega)]; exact a3 s hs, fun z => by rw [hc2, hc s0 a1]; exact a4 z, fun z => ?_, a6⟩
    obtain ⟨x, e, b1, b2, b3, b4⟩ := a5 z
    exact ⟨x, e, b1, b2, by omega, b4⟩
theorem wq_mv_const {wr A : Nat → Int32} {n j c : Nat} : ∀ r : Nat, (∀ s, s < r → ws_cnt wr j (A s).toNatClampNeg = c) → ws_mv wr A n j r = 0 := by
  intro r
  induction r with
  | zero => intro _; rfl
  | succ r ih =>
    intro h
    rw [ws_mv_s, if_neg]
    · exact ih (fun s hs => h s (by omega))
    · intro z
      have a := h r (by omega)
      have b := h (r - n) (by omega)
      omega
theorem wq_dm {n : Nat} (h2 : 2 ≤ n) (h6 : n ≤ 6) (r : Nat) (h : r / n ≤ n) : r < n * (n + 1) := by
  rcases ws_n5 h2 h6 with rfl | rfl | rfl | rfl | rfl <;> omega
theorem wq_bound {n p : Nat} {wr A : Nat → Int32} {r : Nat} (h2 : 2 ≤ n) (h6 : n ≤ 6) (hp : p < n) (h : ws_WF n wr A r) (h0 : ws_mv wr A n p r = 0) : r < n * (n + 1) := by
  have := ws_pig (n - 1) (r / n - 1) (fun j => ws_mv wr A n (if j < p then j else j + 1) r - 2) (fun k hk => by
    obtain ⟨j, hj, e⟩ := h.1 (k + 2) (by omega) (by omega)
    have hjp : j ≠ p := fun z => by rw [z] at e; omega
    by_cases c : j < p
    · refine ⟨j, by omega, ?_⟩
      show ws_mv wr A n (if j < p then j else j + 1) r - 2 = k
      rw [if_pos c]
      omega
    · refine ⟨j - 1, by omega, ?_⟩
      show ws_mv wr A n (if j - 1 < p then j - 1 else j - 1 + 1) r - 2 = k
      rw [if_neg (by omega), show j - 1 + 1 = j by omega]
      omega)
  exact wq_dm h2 h6 r (by omega)
/-- what E says of a reading operation, at its number of reads -/
theorem wq_E_read {n w : Nat} {m : Int32} {wr : Nat → Int32} {p : Nat} {A : Nat → Int32} {b r t : Nat} {ph st it sw ew vw : Int32} (hr64 : r ≤ 64) (et : ph = nI t) (ht : t = 1 ∨ t = 2) (h : wq_E n w m wr p A b (nI r) ph st it sw ew vw) :
    st = nI r ∧ b ≤ 1 ∧ (t = 2 → b = 1 ∧ it = wq_val m p (ws_cnt wr p w + 1)) ∧ vw = -6 ∧ ∃ s0, s0 ≤ w ∧ sw = nI s0 ∧ (∀ s, s < r → s0 ≤ (A s).toNatClampNeg) ∧ ws_cnt wr p s0 = ws_cnt wr p w := by
  obtain ⟨r', t', k, h1, h2, h3, h4, h5, h6, h7, h8, h9, h10, h11⟩ := h
  have er : r = r' := (nI_eq (by omega) (by omega)).mp h1
  have ett : t = t' := (nI_eq (by omega) (by omega)).mp (et.symm.trans h3)
  subst er ett
  have ek := h8 (by omega)
  subst ek
  refine ⟨h5, h7, fun z => h10 (Or.inl z), ?_⟩
  rcases h11 with z | ⟨s0, a1, a2, a3, a4, a5, a6⟩
  · omega
  · exact ⟨a6 ht, s0, a1, a2, a3, a4 (by omega)⟩
end
section
/-! the picture of the law, and a step in it -/
def wq_R (n L w ub : Nat) (m : Int32) (B : Nat → Nat) (vV vC hV ph st it sw ew vw co nx lc mc fc rv wr wn rd ra : Nat → Int32) : Prop :=
  2 ≤ n ∧ n ≤ 6 ∧ L ≤ 63 ∧ ub ≤ L ∧ w + ws_act ph n ≤ ub ∧ ws_V w vV vC wr wn ∧ wq_H n w hV wr ∧ wq_L n w m wr wn ∧
  (∀ p, p < n → ws_P n w wr (fun s => ra (p * 64 + s)) (rd p) (ph p) (ew p) (vw p) (vw p) (co p) (nx p) (lc p) (fun j => mc (p * 6 + j)) (fun j => fc (p * 6 + j)) (fun j => rv (p * 6 + j))) ∧
  (∀ p, p < n → wq_E n w m wr p (fun s => ra (p * 64 + s)) (B p) (rd p) (ph p) (st p) (it p) (sw p) (ew p) (vw p))
def wq_S (n L : Nat) (m : Int32) (B : Nat → Nat) (H : Nat → Int32) (w : Nat) (wr ph st : Nat → Int32) (u : St2) : Prop :=
  ∃ (ub : Nat) (vV vC hV it sw ew lb vw co nx lc mc fc rv wn rd ra : Nat → Int32), u = ((nI n), (nI L), (nI w), (nI ub), vV, vC, hV, H, ph, st, it, sw, ew, lb, vw, co, nx, lc, mc, fc, rv) ∧ wq_R n L w ub m B vV vC hV ph st it sw ew vw co nx lc mc fc rv wr wn rd ra
def wq_T (p w : Nat) (wr ph st : Nat → Int32) (w' : Nat) (wr' ph' st' : Nat → Int32) : Prop :=
  ((w' = w ∧ wr' = wr) ∨ (w' = w + 1 ∧ wr' = upd wr w (nI p) ∧ ph' p = 0)) ∧ (∀ q, q ≠ p → ph' q = ph q) ∧ st' = upd st p (st p + 1)
section
variable {n L w ub : Nat} {m : Int32} {B : Nat → Nat} {vV vC hV H ph st it sw ew lb vw co nx lc mc fc rv wr wn rd ra : Nat → Int32} {p : Nat}
theorem wq_S_i (h : wq_R n L w ub m B vV vC hV ph st it sw ew vw co nx lc mc fc rv wr wn rd ra) : wq_S n L m B H w wr ph st ((nI n), (nI L), (nI w), (nI ub), vV, vC, hV, H, ph, st, it, sw, ew, lb, vw, co, nx, lc, mc, fc, rv) :=
  ⟨ub, vV, vC, hV, it, sw, ew, lb, vw, co, nx, lc, mc, fc, rv, wn, rd, ra, rfl, h⟩
theorem wq_stepW (h : wq_R n L w ub m B vV vC hV ph st it sw ew vw co nx lc mc fc rv wr wn rd ra) (hp : p < n) (e3 : ph p = nI 3) :
    ∃ w' wr' ph' st' u', wq_S n L m B H w' wr' ph' st' u' ∧ wq_T p w wr ph st w' wr' ph' st' ∧ (∀ post, post u' → wpX_takeStep post ((nI n), (nI L), (nI w), (nI ub), vV, vC, hV, H, ph, st, it, sw, ew, lb, vw, co, nx, lc, mc, fc, rv) (nI p)) := by
  obtain ⟨h2, h6, hL, hub, hact, hV', hH, hLg, hP, hE⟩ := h
  have ac := ws_act_upd ph p 0 n hp
  rw [e3, show ws_b (nI 3) = 1 from by decide, show ws_b 0 = 0 from by decide] at ac
  have hw : w < 128 := by omega
  have hp6 : p < 6 := by omega
  have hEp := hE p hp
  obtain ⟨r, t, k, b1, b2, b3, b4, b5, b6, b7, b8, b9, b10, b11⟩ := hEp
  have et : t = 3 := ((nI_eq (by decide) (by omega)).mp (e3.symm.trans b3)).symm
  subst et
  have b10' := b10 (Or.inr rfl)
  have b8' := b8 (by omega)
  have b9' := b9 rfl
  obtain ⟨s0, a1, a2, a3, a4, a5, a6⟩ := b11.resolve_left (fun z => by omega)
  obtain ⟨x, e, c1, c2, c3, c4, c5⟩ := a5 (Or.inr rfl)
  have ca := a4 (by omega)
  have hx : x ≤ w := by omega
  have hcx : ws_cnt wr p w ≤ ws_cnt wr p x := by
    have := ws_cnt_mon wr p c1
    omega
  have ec : ws_row vC (w * 6) 6 (w * 6 + 6 + p) + 1 = nI (ws_cnt wr p w + 1) := by
    rw [ws_row_hi vC (w * 6) p hp6, (hV' w p (Nat.le_refl w) hp6).1, nI_1]
  refine ⟨w + 1, upd wr w (nI p), upd ph p 0, upd st p (st p + 1), ((nI n), (nI L), (nI (w + 1)), (nI ub), (upd (ws_row vV (w * 6) 6) (w * 6 + 6 + p) (it p)), (upd (ws_row vC (w * 6) 6) (w * 6 + 6 + p) (ws_row vC (w * 6) 6 (w * 6 + 6 + p) + 1)), (upd hV p (vw p)), H, (upd ph p 0), (upd st p (st p + 1)), it, sw, ew, lb, vw, co, nx, lc, mc, fc, rv),
    ?_, ⟨Or.inr ⟨rfl, rfl, pk_us⟩, fun q hq => pk_un hq, rfl⟩, fun post h => wx_stepW hp6 hw e3 h⟩
  refine wq_S_i (wn := upd wn w (it p)) (rd := rd) (ra := ra) ⟨h2, h6, hL, hub, by omega, ?_, ?_, wq_L_new hp hLg b10'.2, ?_, ?_⟩
  · rw [ec]
    exact ws_V_new hp6 hV'
  · rw [c4]
    exact wq_H_new hp h6 hx hcx hH
  · intro q hq
    have k := ws_P_ext (w' := w + 1) (wr' := upd wr w (nI p)) (by omega) (by omega) h6 (fun j v hv => ws_cnt_upd wr w (nI p) j v hv) (fun s _ => rfl) (fun j _ => rfl) (fun j _ => rfl) (fun j _ => rfl) (hP q hq)
    by_cases e : q = p
    · subst e
      rw [pk_us]
      exact ws_P_idle k
    · rw [pk_un e]
      exact k
  · intro q hq
    by_cases e' : q = p
    · subst e'
      rw [pk_us, pk_us]
      refine ⟨r, 0, k + 1, b1, b2, rfl, by omega, by rw [b5, nI_1], by omega, b7, fun z => absurd rfl z, fun z => by omega, fun z => by omega, Or.inr ⟨s0, by omega, a2, a3, fun z => absurd rfl z, fun _ => ⟨x, e, c1, c2, by omega, c4, c5⟩, fun z => by omega⟩⟩
    · rw [pk_un e', pk_un e']
      exact wq_E_ext (by omega) (fun v hv => ws_cnt_upd wr w (nI p) q v hv) (by rw [ws_cnt_new wr w p q (by omega) (by omega), if_neg (fun z => e' z.symm)]) (fun s _ => rfl) (hE q hq)
theorem wq_otherP {q r : Nat} {A : Nat → Int32} {a b c d e f g i : Int32} (h2 : 2 ≤ n) (h6 : n ≤ 6) (hw : w ≤ 128) (hr : r < 64) (hq : q ≠ p)
    (h : ws_P n w wr (fun s => ra (q * 64 + s)) a b c d e f g i (fun j => mc (q * 6 + j)) (fun j => fc (q * 6 + j)) (fun j => rv (q * 6 + j))) :
    ws_P n w wr (fun s => upd ra (p * 64 + r) (nI w) (q * 64 + s)) a b c d e f g i (fun j => ws_MG n w r (p * 6) wr A mc (q * 6 + j)) (fun j => ws_FG n w r (p * 6) wr fc (q * 6 + j)) (fun j => upd rv (p * 6 + r % n) (nI w) (q * 6 + j)) := by
  have hml := ws_ml h2 r
  exact ws_P_ext (Nat.le_refl w) hw h6 (fun _ _ _ => rfl) (fun s hs => pk_un (ws_o64 hq hr hs)) (fun j hj => ws_MG_o _ _ _ _ _ _ _ _ (ws_o6 hq (by omega) hj)) (fun j hj => ws_FG_o _ _ _ _ _ _ _ (ws_o6 hq (by omega) hj)) (fun j hj => pk_un (ws_o6 hq (by omega) hj)) h
theorem wq_otherE {q r b : Nat} {a c d e f g i : Int32} (hr : r < 64) (hq : q ≠ p) (h : wq_E n w m wr q (fun s => ra (q * 64 + s)) b a c d e f g i) : wq_E n w m wr q (fun s => upd ra (p * 64 + r) (nI w) (q * 64 + s)) b a c d e f g i :=
  wq_E_ext (Nat.le_refl w) (fun _ _ => rfl) rfl (fun s hs => pk_un (ws_o64 hq hr hs)) h
/-- E after a read that goes on, and after one that ends the reading -/
theorem wq_E_go {A : Nat → Int32} {b r t s0 : Nat} {it sw ew : Int32} (hr : r < 64) (hb : r < n * (n + 1)) (hw : w ≤ 128) (ht : t = 1 ∨ t = 2) (hb1 : b ≤ 1) (h2 : t = 2 → b = 1 ∧ it = wq_val m p (ws_cnt wr p w + 1))
    (a1 : s0 ≤ w) (a2 : sw = nI s0) (a3 : ∀ s, s < r → s0 ≤ (A s).toNatClampNeg) (a4 : ws_cnt wr p s0 = ws_cnt wr p w) : wq_E n w m wr p (upd A r (nI w)) b (nI (r + 1)) (nI t) (nI r + 1) it sw ew (-6) := by
  refine ⟨r + 1, t, r + 1, rfl, by omega, rfl, by omega, nI_1 r, by omega, hb1, fun _ => rfl, fun z => by omega, fun z => h2 (by omega), Or.inr ⟨s0, a1, a2, fun s hs => ?_, fun _ => a4, fun z => by omega, fun _ => rfl⟩⟩
  by_cases e : s = r
  · rw [e, pk_us, nI_clamp (by omega)]
    exact a1
  · rw [pk_un e]
    exact a3 s (by omega)
theorem wq_E_end {A : Nat → Int32} {b r t t' s0 x : Nat} {it sw : Int32} (hr : r < 64) (hb : r < n * (n + 1)) (hw : w ≤ 128) (ht : (t = 1 ∧ t' = 0) ∨ (t = 2 ∧ t' = 3)) (hb1 : b ≤ 1) (h2 : t = 2 → b = 1 ∧ it = wq_val m p (ws_cnt wr p w + 1))
    (a1 : s0 ≤ w) (a2 : sw = nI s0) (a3 : ∀ s, s < r → s0 ≤ (A s).toNatClampNeg) (a4 : ws_cnt wr p s0 = ws_cnt wr p w) (x1 : s0 ≤ x) (x2 : x ≤ w) : wq_E n w m wr p (upd A r (nI w)) b (nI (r + 1)) (nI t') (nI r + 1) it sw (nI w) (nI x) := by
  refine ⟨r + 1, t', r + 1, rfl, by omega, rfl, by omega, nI_1 r, by omega, hb1, fun _ => rfl, fun z => by omega, fun z => h2 (by omega), Or.inr ⟨s0, a1, a2, fun s hs => ?_, fun _ => a4, fun _ => ⟨x, w, x1, x2, Nat.le_refl w, rfl, rfl⟩, fun z => by omega⟩⟩
  by_cases e : s = r
  · rw [e, pk_us, nI_clamp (by omega)]
    exact a1
  · rw [pk_un e]
    exact a3 s (by omega)
theorem wq_stepR (h : wq_R n L w ub m B vV vC hV ph st it sw ew vw co nx lc mc fc rv wr wn rd ra) (hp : p < n) {t t' : Nat} (et : ph p = nI t) (ht : (t = 1 ∧ t' = 0) ∨ (t = 2 ∧ t' = 3)) :
    ∃ w' wr' ph' st' u', wq_S n L m B H w' wr' ph' st' u' ∧ wq_T p w wr ph st w' wr' ph' st' ∧ (∀ post, post u' → wpX_takeStep post ((nI n), (nI L), (nI w), (nI ub), vV, vC, hV, H, ph, st, it, sw, ew, lb, vw, co, nx, lc, mc, fc, rv) (nI p)) := by
  obtain ⟨h2, h6, hL, hub, hact, hV', hH, hLg, hP, hE⟩ := h
  have hw : w ≤ 128 := by omega
  have hp6 : p < 6 := by omega
  have ht12 : t = 1 ∨ t = 2 := by omega
  have et3 : ¬ ph p = 3 := by
    rw [et]
    rcases ht12 with rfl | rfl <;> decide
  have ac := ws_act_upd ph p (nI t') n hp
  have eb : ws_b (ph p) = ws_b (nI t') := by
    rw [et]
    rcases ht with ⟨rfl, rfl⟩ | ⟨rfl, rfl⟩ <;> decide
  obtain ⟨r, t0, hr64, ht0, er, et0, h1, hT, h3, h4, h5⟩ := hP p hp
  have e0 : t0 = t := by
    rw [et] at et0
    exact ((nI_eq (by omega) (by omega)).mp et0).symm
  have hG := h5 (by omega)
  have hr : r < 64 := by
    have := ws_bound h2 h6 hG.2.2.2.2
    omega
  have hml := ws_ml h2 r
  have hEp := hE p hp
  rw [er] at hEp
  obtain ⟨k1, k2, k3, k4, s0, a1, a2, a3, a4⟩ := wq_E_read hr64 et ht12 hEp
  have own : ∀ s, s < r → ws_cnt wr p (ra (p * 64 + s)).toNatClampNeg = ws_cnt wr p w := by
    intro s hs
    have u1 := ws_cnt_mon wr p (a3 s hs)
    have u2 := ws_cnt_mon wr p (ws_Rds_c hw h1 hs).1
    omega
  have hb : r < n * (n + 1) := wq_bound h2 h6 hp hG.2.2.2.2 (wq_mv_const r own)
  have hne : (r < n ∨ ws_cnt wr (r % n) w < ws_cnt wr (r % n) (ra (p * 64 + r % n)).toNatClampNeg + 2) → n ≤ r → ws_cnt wr (r % n) w < ws_cnt wr (r % n) (ra (p * 64 + r % n)).toNatClampNeg + 2 := by
    intro z y
    omega
  by_cases cA : n ≤ r ∧ ws_cnt wr (r % n) (ra (p * 64 + r % n)).toNatClampNeg + 2 ≤ ws_cnt wr (r % n) w
  · obtain ⟨x, hx, ex, cx⟩ := hH (r % n) hml
    have x1 : s0 ≤ x := by
      have u1 := a3 (r % n) (by omega)
      by_cases c : x ≤ (ra (p * 64 + r % n)).toNatClampNeg
      · have := ws_cnt_mon wr (r % n) c
        omega
      · omega
    refine ⟨w, wr, upd ph p (nI t'), upd st p (st p + 1), ((nI n), (nI L), (nI w), (nI ub), vV, vC, hV, H, (upd ph p (nI t')), (upd st p (st p + 1)), it, sw, (upd ew p (nI w)), (upd lb p (nI (r % n))), (upd vw p (hV (r % n))), co, nx, lc, (ws_MG n w r (p * 6) wr (fun s => ra (p * 64 + s)) mc), (ws_FG n w r (p * 6) wr fc), (upd rv (p * 6 + r % n) (nI w))),
      ?_, ⟨Or.inl ⟨rfl, rfl⟩, fun q hq => pk_un hq, rfl⟩, fun post h => ?_⟩
    · refine wq_S_i (wn := wn) (rd := upd rd p (nI (r + 1))) (ra := upd ra (p * 64 + r) (nI w)) ⟨h2, h6, hL, hub, by omega, hV', hH, hLg, ?_, ?_⟩
      · intro q hq
        by_cases e : q = p
        · subst e
          rw [pk_us, pk_us, pk_us, pk_us, ex, ws_loc ra (q * 64) r (nI w), ws_MG_loc, ws_FG_loc, ws_loc rv (q * 6) (r % n) (nI w)]
          exact ws_P_end h2 hw hr (by omega) h1 hT hx _ _ _
        · rw [pk_un e, pk_un e, pk_un e, pk_un e]
          exact wq_otherP h2 h6 hw hr e (hP q hq)
      · intro q hq
        by_cases e : q = p
        · subst e
          rw [pk_us, pk_us, pk_us, pk_us, pk_us, ex, ws_loc ra (q * 64) r (nI w), k1]
          exact wq_E_end hr hb hw ht k2 k3 a1 a2 a3 a4 x1 hx
        · rw [pk_un e, pk_un e, pk_un e, pk_un e, pk_un e]
          exact wq_otherE hr e (hE q hq)
    · exact wx_stepR hp6 et3 hG.2.1 (wx_read hp6 h2 h6 hw hr hV' h1 hT hG et ht (fun _ _ => h) (fun z => by omega) (fun _ z => by omega) (fun z => by omega))
  · by_cases cB : r % n + 1 < n
    · refine ⟨w, wr, ph, upd st p (st p + 1), ((nI n), (nI L), (nI w), (nI ub), vV, vC, hV, H, ph, (upd st p (st p + 1)), it, sw, ew, lb, vw, co, (upd nx p (nI (r % n + 1))), lc, (ws_MG n w r (p * 6) wr (fun s => ra (p * 64 + s)) mc), (ws_FG n w r (p * 6) wr fc), (upd rv (p * 6 + r % n) (nI w))),
        ?_, ⟨Or.inl ⟨rfl, rfl⟩, fun q hq => rfl, rfl⟩, fun post h => ?_⟩
      · refine wq_S_i (wn := wn) (rd := upd rd p (nI (r + 1))) (ra := upd ra (p * 64 + r) (nI w)) ⟨h2, h6, hL, hub, by omega, hV', hH, hLg, ?_, ?_⟩
        · intro q hq
          by_cases e : q = p
          · subst e
            rw [pk_us, pk_us, et, ws_loc ra (q * 64) r (nI w), ws_MG_loc, ws_FG_loc, ws_loc rv (q * 6) (r % n) (nI w)]
            exact ws_P_go h2 hw hr ht12 h1 hT h3 (ws_Go_B h2 h6 hw h1 hG (hne (by omega)) cB)
          · rw [pk_un e, pk_un e]
            exact wq_otherP h2 h6 hw hr e (hP q hq)
        · intro q hq
          by_cases e : q = p
          · subst e
            rw [pk_us, pk_us, et, ws_loc ra (q * 64) r (nI w), k1, k4]
            exact wq_E_go hr hb hw ht12 k2 k3 a1 a2 a3 a4
          · rw [pk_un e, pk_un e]
            exact wq_otherE hr e (hE q hq)
      · exact wx_stepR hp6 et3 hG.2.1 (wx_read hp6 h2 h6 hw hr hV' h1 hT hG et ht (fun z y => absurd ⟨z, y⟩ cA) (fun _ _ => h) (fun _ _ z => by omega) (fun _ z => by omega))
    · have cN : r % n + 1 = n := by omega
      by_cases cD : r < n ∨ ∃ i, i < n ∧ ws_mv wr (upd (fun s => ra (p * 64 + s)) r (nI w)) n i (r + 1) = r / n + 1
      · refine ⟨w, wr, ph, upd st p (st p + 1), ((nI n), (nI L), (nI w), (nI ub), vV, vC, hV, H, ph, (upd st p (st p + 1)), it, sw, ew, lb, vw, (upd co p (nI (r / n + 2))), (upd nx p 0), (upd lc p (nI w)), (ws_MG n w r (p * 6) wr (fun s => ra (p * 64 + s)) mc), (ws_FG n w r (p * 6) wr fc), (upd rv (p * 6 + r % n) (nI w))),
          ?_, ⟨Or.inl ⟨rfl, rfl⟩, fun q hq => rfl, rfl⟩, fun post h => ?_⟩
        · refine wq_S_i (wn := wn) (rd := upd rd p (nI (r + 1))) (ra := upd ra (p * 64 + r) (nI w)) ⟨h2, h6, hL, hub, by omega, hV', hH, hLg, ?_, ?_⟩
          · intro q hq
            by_cases e : q = p
            · subst e
              rw [pk_us, pk_us, pk_us, pk_us, et, ws_loc ra (q * 64) r (nI w), ws_MG_loc, ws_FG_loc, ws_loc rv (q * 6) (r % n) (nI w)]
              exact ws_P_go h2 hw hr ht12 h1 hT h3 (ws_Go_D h2 h6 hw h1 hG (hne (by omega)) cN (fun z => cD.resolve_left (by omega)))
            · rw [pk_un e, pk_un e, pk_un e, pk_un e]
              exact wq_otherP h2 h6 hw hr e (hP q hq)
          · intro q hq
            by_cases e : q = p
            · subst e
              rw [pk_us, pk_us, et, ws_loc ra (q * 64) r (nI w), k1, k4]
              exact wq_E_go hr hb hw ht12 k2 k3 a1 a2 a3 a4
            · rw [pk_un e, pk_un e]
              exact wq_otherE hr e (hE q hq)
        · exact wx_stepR hp6 et3 hG.2.1 (wx_read hp6 h2 h6 hw hr hV' h1 hT hG et ht (fun z y => absurd ⟨z, y⟩ cA) (fun _ z => by omega) (fun z _ _ y => absurd cD (fun c => c.elim (fun a => by omega) (fun ⟨i, hi, b⟩ => y i hi b))) (fun _ _ _ => h))
      · have hnr : n ≤ r := by
          by_cases c : n ≤ r
          · exact c
          · exact absurd (Or.inl (by omega)) cD
        obtain ⟨x, hx, ex⟩ := h1 (r - n) (by omega)
        have el : lc p = nI x := by
          rw [hG.2.2.1 hnr, (ws_dm2 h2 h6 r cN).2.2.2 hnr]
          exact ex
        have x1 : s0 ≤ x := by
          have u1 := a3 (r - n) (by omega)
          dsimp only at u1 ex
          rw [ex, nI_clamp (by omega)] at u1
          exact u1
        refine ⟨w, wr, upd ph p (nI t'), upd st p (st p + 1), ((nI n), (nI L), (nI w), (nI ub), vV, vC, hV, H, (upd ph p (nI t')), (upd st p (st p + 1)), it, sw, (upd ew p (nI w)), (upd lb p (-7)), (upd vw p (lc p)), co, nx, lc, (ws_MG n w r (p * 6) wr (fun s => ra (p * 64 + s)) mc), (ws_FG n w r (p * 6) wr fc), (upd rv (p * 6 + r % n) (nI w))),
          ?_, ⟨Or.inl ⟨rfl, rfl⟩, fun q hq => pk_un hq, rfl⟩, fun post h => ?_⟩
        · refine wq_S_i (wn := wn) (rd := upd rd p (nI (r + 1))) (ra := upd ra (p * 64 + r) (nI w)) ⟨h2, h6, hL, hub, by omega, hV', hH, hLg, ?_, ?_⟩
          · intro q hq
            by_cases e : q = p
            · subst e
              rw [pk_us, pk_us, pk_us, pk_us, el, ws_loc ra (q * 64) r (nI w), ws_MG_loc, ws_FG_loc, ws_loc rv (q * 6) (r % n) (nI w)]
              exact ws_P_end h2 hw hr (by omega) h1 hT hx _ _ _
            · rw [pk_un e, pk_un e, pk_un e, pk_un e]
              exact wq_otherP h2 h6 hw hr e (hP q hq)
          · intro q hq
            by_cases e : q = p
            · subst e
              rw [pk_us, pk_us, pk_us, pk_us, pk_us, el, ws_loc ra (q * 64) r (nI w), k1]
              exact wq_E_end hr hb hw ht k2 k3 a1 a2 a3 a4 x1 hx
            · rw [pk_un e, pk_un e, pk_un e, pk_un e, pk_un e]
              exact wq_otherE hr e (hE q hq)
        · exact wx_stepR hp6 et3 hG.2.1 (wx_read hp6 h2 h6 hw hr hV' h1 hT hG et ht (fun z y => absurd ⟨z, y⟩ cA) (fun _ z => by omega) (fun _ _ _ _ => h) (fun _ _ z => absurd z cD))
end
theorem wq_step {n L : Nat} {m : Int32} {B : Nat → Nat} {H : Nat → Int32} {w : Nat} {wr ph st : Nat → Int32} {u : St2} {p : Nat} (h : wq_S n L m B H w wr ph st u) (hp : p < n) (h0 : ¬ ph p = 0) :
    ∃ w' wr' ph' st' u', wq_S n L m B H w' wr' ph' st' u' ∧ wq_T p w wr ph st w' wr' ph' st' ∧ (∀ post, post u' → wpX_takeStep post u (nI p)) := by
  obtain ⟨ub, vV, vC, hV, it, sw, ew, lb, vw, co, nx, lc, mc, fc, rv, wn, rd, ra, rfl, hR⟩ := h
  obtain ⟨r, t, hr, ht, er, et, _⟩ := hR.2.2.2.2.2.2.2.2.1 p hp
  have h4 : t = 0 ∨ t = 1 ∨ t = 2 ∨ t = 3 := by omega
  rcases h4 with rfl | rfl | rfl | rfl
  · exact absurd et h0
  · exact wq_stepR hR hp (t' := 0) et (Or.inl ⟨rfl, rfl⟩)
  · exact wq_stepR hR hp (t' := 3) et (Or.inr ⟨rfl, rfl⟩)
  · exact wq_stepW hR hp et
end
section
/-! run and schedule in the picture of the law -/
def ws_sub (wr : Nat → Int32) (d : Nat → Nat) (wF : Nat) : Nat → Nat → Nat → Prop
  | 0 => fun _ t => t = wF
  | m + 1 => fun i t => ws_sub wr d wF m (i + 1) t ∨ (t < wF ∧ wr t = nI (d i) ∧ ws_sub wr d wF m (i + 1) (t + 1))
theorem ws_sub_s (wr : Nat → Int32) (d : Nat → Nat) (wF m i t : Nat) : ws_sub wr d wF (m + 1) i t = (ws_sub wr d wF m (i + 1) t ∨ (t < wF ∧ wr t = nI (d i) ∧ ws_sub wr d wF m (i + 1) (t + 1))) := rfl
theorem ws_cnt_pre {wr wr' : Nat → Int32} (j : Nat) : ∀ v : Nat, (∀ t, t < v → wr' t = wr t) → ws_cnt wr' j v = ws_cnt wr j v := by
  intro v
  induction v with
  | zero => intro _; rfl
  | succ v ih =>
    intro h
    rw [ws_cnt_s, ws_cnt_s, ih (fun t ht => h t (by omega)), h v (by omega)]
theorem wq_run_lp {n L : Nat} {m : Int32} {B : Nat → Nat} {H : Nat → Int32} {p K : Nat} (hn : n ≤ 6) (hp : p < n) (hK : K ≤ 64) : ∀ (d t k : Nat) (w : Nat) (wr ph st : Nat → Int32) (u : St2), t + d = K → wq_S n L m B H w wr ph st u → st p = nI (k + t) → k + K < 2 ^ 31 →
    ∃ r w' wr' ph' st' u', wq_S n L m B H w' wr' ph' st' u' ∧ ((w' = w ∧ wr' = wr) ∨ (¬ ph p = 0 ∧ w' = w + 1 ∧ wr' = upd wr w (nI p))) ∧ (ph' p = 0 ∨ st' p = nI (k + K)) ∧
      (∀ post, post r u' → wX_run_55 post (nI p) (nI K) (d + 1) (nI t) u.1 u.2.1 u.2.2.1 u.2.2.2.1 u.2.2.2.2.1 u.2.2.2.2.2.1 u.2.2.2.2.2.2.1 u.2.2.2.2.2.2.2.1 u.2.2.2.2.2.2.2.2.1 u.2.2.2.2.2.2.2.2.2.1 u.2.2.2.2.2.2.2.2.2.2.1 u.2.2.2.2.2.2.2.2.2.2.2.1 u.2.2.2.2.2.2.2.2.2.2.2.2.1 u.2.2.2.2.2.2.2.2.2.2.2.2.2.1 u.2.2.2.2.2.2.2.2.2.2.2.2.2.2.1 u.2.2.2.2.2.2.2.2.2.2.2.2.2.2.2.1 u.2.2.2.2.2.2.2.2.2.2.2.2.2.2.2.2.1 u.2.2.2.2.2.2.2.2.2.2.2.2.2.2.2.2.2.1 u.2.2.2.2.2.2.2.2.2.2.2.2.2.2.2.2.2.2.1 u.2.2.2.2.2.2.2.2.2.2.2.2.2.2.2.2.2.2.2.1 u.2.2.2.2.2.2.2.2.2.2.2.2.2.2.2.2.2.2.2.2) := by
  intro d
  induction d with
  | zero =>
    intro t k w wr ph st u ht hS hst hkK
    refine ⟨nI t, w, wr, ph, st, u, hS, Or.inl ⟨rfl, rfl⟩, Or.inr (by rw [hst, show t = K by omega]), fun post h => ?_⟩
    obtain ⟨ub, vV, vC, hV, it, sw, ew, lb, vw, co, nx, lc, mc, fc, rv, wn, rd, ra, rfl, hR⟩ := hS
    exact br_t (nI_le (by omega) (by omega)) h
  | succ d ih =>
    intro t k w wr ph st u ht hS hst hkK
    have hp6 : p < 6 := by omega
    by_cases e0 : ph p = 0
    · refine ⟨nI t, w, wr, ph, st, u, hS, Or.inl ⟨rfl, rfl⟩, Or.inl e0, fun post h => ?_⟩
      obtain ⟨ub, vV, vC, hV, it, sw, ew, lb, vw, co, nx, lc, mc, fc, rv, wn, rd, ra, rfl, hR⟩ := hS
      exact br_f (nI_ge (by omega) (by omega)) ⟨ws_in hp6, br_t (ws_t (f := ph) (by omega) e0) h⟩
    · obtain ⟨w1, wr1, ph1, st1, u1, hS1, hT, sx⟩ := wq_step hS hp e0
      obtain ⟨r, w', wr', ph', st', u', hS', hw, hi, gx⟩ := ih (t + 1) k w1 wr1 ph1 st1 u1 (by omega) hS1 (by rw [hT.2.2, pk_us, hst, nI_1]; rfl) hkK
      refine ⟨r, w', wr', ph', st', u', hS', ?_, hi, fun post h => ?_⟩
      · rcases hT.1 with ⟨rfl, rfl⟩ | ⟨rfl, rfl, e1⟩
        · rcases hw with z | z
          · exact Or.inl z
          · exact Or.inr ⟨e0, z.2⟩
        · rcases hw with z | z
          · exact Or.inr ⟨e0, z⟩
          · exact absurd e1 z.1
      · have g := gx post h
        obtain ⟨ub, vV, vC, hV, it, sw, ew, lb, vw, co, nx, lc, mc, fc, rv, wn, rd, ra, rfl, hR⟩ := hS
        obtain ⟨ub1, vV1, vC1, hV1, it1, sw1, ew1, lb1, vw1, co1, nx1, lc1, mc1, fc1, rv1, wn1, rd1, ra1, rfl, hR1⟩ := hS1
        refine br_f (nI_ge (by omega) (by omega)) ⟨ws_in hp6, br_f (ws_nt (f := ph) (by omega) e0) (sx _ ?_)⟩
        exact nm_r (nI_1 t) g
theorem wq_st {n L : Nat} {m : Int32} {B : Nat → Nat} {H : Nat → Int32} {w : Nat} {wr ph st : Nat → Int32} {u : St2} {p : Nat} (h : wq_S n L m B H w wr ph st u) (hp : p < n) : ∃ k, st p = nI k ∧ k ≤ 43 := by
  obtain ⟨ub, vV, vC, hV, it, sw, ew, lb, vw, co, nx, lc, mc, fc, rv, wn, rd, ra, rfl, hR⟩ := h
  obtain ⟨h2, h6, hL, hub, hact, hV', hH, hLg, hP, hE⟩ := hR
  obtain ⟨r, t, k, b1, b2, b3, b4, b5, b6, b7, _⟩ := hE p hp
  refine ⟨k, b5, ?_⟩
  rcases ws_n5 h2 h6 with rfl | rfl | rfl | rfl | rfl <;> omega
/-- run of k steps at most, whoever it is for: at most one write, by that process; 64 steps are always enough -/
theorem wq_run {n L : Nat} {m : Int32} {B : Nat → Nat} {H : Nat → Int32} {w : Nat} {wr ph st : Nat → Int32} {u : St2} {p kk : Nat} (h : wq_S n L m B H w wr ph st u) (hn : n ≤ 6) (hp : p < n) (hk1 : 1 ≤ kk) (hk : kk ≤ 64) :
    ∃ r w' wr' ph' st' u', wq_S n L m B H w' wr' ph' st' u' ∧ ((w' = w ∧ wr' = wr) ∨ (w' = w + 1 ∧ wr' = upd wr w (nI p))) ∧ (H p = 0 → ¬ ph p = 0 → kk = 64 → ph' p = 0) ∧ (∀ post, post r u' → wpX_run post u (nI p) (nI kk)) := by
  have hp6 : p < 6 := by omega
  have k1 : (1 : Int32) ≤ nI kk := nI_le (a := 1) hk1 (by omega)
  have h0 := h
  obtain ⟨k, ek, hk43⟩ := wq_st h hp
  obtain ⟨ub, vV, vC, hV, it, sw, ew, lb, vw, co, nx, lc, mc, fc, rv, wn, rd, ra, rfl, hR⟩ := h
  by_cases eh : H p = 0
  · by_cases e0 : ph p = 0
    · refine ⟨-5, w, wr, ph, st, _, h0, Or.inl ⟨rfl, rfl⟩, fun _ z => absurd e0 z, fun post h => ?_⟩
      unfold wpX_run
      exact wx_in hp hn (br_f (by decide) (br_t k1 ⟨ws_in hp6, br_t (ws_t (f := H) (by omega) eh) ⟨ws_in hp6, br_t (ws_t (f := ph) (by omega) e0) h⟩⟩))
    · obtain ⟨r, w', wr', ph', st', u', hS', hw, hi, gx⟩ := wq_run_lp hn hp hk kk 0 k w wr ph st _ (by omega) h0 ek (by omega)
      refine ⟨r, w', wr', ph', st', u', hS', hw.elim Or.inl (fun z => Or.inr z.2), fun _ _ e64 => ?_, fun post h => ?_⟩
      · rcases hi with z | z
        · exact z
        · obtain ⟨k', ek', hk'⟩ := wq_st hS' hp
          have := (nI_eq (by omega) (by omega)).mp (z.symm.trans ek')
          omega
      · unfold wpX_run
        exact wx_in hp hn (br_f (by decide) (br_t k1 ⟨ws_in hp6, br_t (ws_t (f := H) (by omega) eh) ⟨ws_in hp6, br_f (ws_nt (f := ph) (by omega) e0) (br_t (nI_le (b := 64) hk (by decide)) ⟨_, gx post h⟩)⟩⟩))
  · refine ⟨-2, w, wr, ph, st, _, h0, Or.inl ⟨rfl, rfl⟩, fun z => absurd z eh, fun post h => ?_⟩
    unfold wpX_run
    exact wx_in hp hn (br_f (by decide) (br_t k1 ⟨ws_in hp6, br_f (ws_nt (f := H) (by omega) eh) h⟩))
def wq_dg (x : Int32) (i : Nat) : Nat := x.toBitVec.toNat / 16 ^ i % 16
theorem wq_sh (i : Nat) (hi : i < 8) : (((nI i * 4).toUInt32 &&& Int32.toUInt32 31).toBitVec % 32).toNat = 4 * i := by
  have h8 : i = 0 ∨ i = 1 ∨ i = 2 ∨ i = 3 ∨ i = 4 ∨ i = 5 ∨ i = 6 ∨ i = 7 := by omega
  rcases h8 with rfl | rfl | rfl | rfl | rfl | rfl | rfl | rfl <;> decide
theorem wq_dig (x : Int32) (i : Nat) (hi : i < 8) : ((x.toUInt32 >>> ((nI i * 4).toUInt32 &&& Int32.toUInt32 31)).toInt32) &&& 15 = nI (wq_dg x i) := by
  rw [pk_and _ (m := 15) 4 (by decide), pk_ushr x (nI i * 4) (4 * i) (wq_sh i hi)]
  unfold wq_dg
  rw [show (16 : Nat) = 2 ^ 4 from rfl, ← Nat.pow_mul]
theorem wq_dg_lt (x : Int32) (i : Nat) : wq_dg x i < 16 := Nat.mod_lt _ (by decide)
theorem wq_sch_lp {n L : Nat} {m : Int32} {B : Nat → Nat} {H : Nat → Int32} (x : Int32) (hn : n ≤ 6) : ∀ (d t : Nat) (dn : Int32) (w : Nat) (wr ph st : Nat → Int32) (u : St2), t + d = 8 → wq_S n L m B H w wr ph st u →
    ∃ r w' wr' ph' st' u', wq_S n L m B H w' wr' ph' st' u' ∧ ws_sub wr' (wq_dg x) w' d t w ∧ w ≤ w' ∧ (∀ s, s < w → wr' s = wr s) ∧
      (∀ j, j < n → (ph j = 0 → ws_cnt wr' j w' = ws_cnt wr' j w) ∧ ws_cnt wr' j w' ≤ ws_cnt wr' j w + 1) ∧
      (∀ post, post r u' → wX_schedule_4 post x (d + 1) dn (nI t) u.1 u.2.1 u.2.2.1 u.2.2.2.1 u.2.2.2.2.1 u.2.2.2.2.2.1 u.2.2.2.2.2.2.1 u.2.2.2.2.2.2.2.1 u.2.2.2.2.2.2.2.2.1 u.2.2.2.2.2.2.2.2.2.1 u.2.2.2.2.2.2.2.2.2.2.1 u.2.2.2.2.2.2.2.2.2.2.2.1 u.2.2.2.2.2.2.2.2.2.2.2.2.1 u.2.2.2.2.2.2.2.2.2.2.2.2.2.1 u.2.2.2.2.2.2.2.2.2.2.2.2.2.2.1 u.2.2.2.2.2.2.2.2.2.2.2.2.2.2.2.1 u.2.2.2.2.2.2.2.2.2.2.2.2.2.2.2.2.1 u.2.2.2.2.2.2.2.2.2.2.2.2.2.2.2.2.2.1 u.2.2.2.2.2.2.2.2.2.2.2.2.2.2.2.2.2.2.1 u.2.2.2.2.2.2.2.2.2.2.2.2.2.2.2.2.2.2.2.1 u.2.2.2.2.2.2.2.2.2.2.2.2.2.2.2.2.2.2.2.2) := by
  intro d
  induction d with
  | zero =>
    intro t dn w wr ph st u ht hS
    refine ⟨dn, w, wr, ph, st, u, hS, rfl, Nat.le_refl w, fun _ _ => rfl, fun j _ => ⟨fun _ => rfl, by omega⟩, fun post h => ?_⟩
    obtain ⟨ub, vV, vC, hV, it, sw, ew, lb, vw, co, nx, lc, mc, fc, rv, wn, rd, ra, rfl, hR⟩ := hS
    exact br_t (nI_le (a := 8) (by omega) (by omega)) h
  | succ d ih =>
    intro t dn w wr ph st u ht hS
    have ep := wq_dig x t (by omega)
    have hp16 := wq_dg_lt x t
    generalize hpp : wq_dg x t = p at ep hp16
    by_cases c : n ≤ p ∨ ¬ H p = 0 ∨ ph p = 0
    · obtain ⟨r, w', wr', ph', st', u', hS', hsub, hle, hpre, hcn, gx⟩ := ih (t + 1) dn w wr ph st u (by omega) hS
      refine ⟨r, w', wr', ph', st', u', hS', Or.inl hsub, hle, hpre, hcn, fun post h => ?_⟩
      have g := gx post h
      obtain ⟨ub, vV, vC, hV, it, sw, ew, lb, vw, co, nx, lc, mc, fc, rv, wn, rd, ra, rfl, hR⟩ := hS
      refine br_f (nI_ge (b := 8) (by omega) (by omega)) (nm_r ep ?_)
      exact wx_can_f hn (by omega) c (br_t rfl (nm_r (nI_1 t) g))
    · have hpn : p < n := by
        by_cases z : n ≤ p
        · exact absurd (Or.inl z) c
        · omega
      have eh : H p = 0 := by
        by_cases z : H p = 0
        · exact z
        · exact absurd (Or.inr (Or.inl z)) c
      have e0 : ¬ ph p = 0 := fun z => c (Or.inr (Or.inr z))
      obtain ⟨w1, wr1, ph1, st1, u1, hS1, hT, sx⟩ := wq_step hS hpn e0
      obtain ⟨r, w', wr', ph', st', u', hS', hsub, hle, hpre, hcn, gx⟩ := ih (t + 1) (dn + 1) w1 wr1 ph1 st1 u1 (by omega) hS1
      refine ⟨r, w', wr', ph', st', u', hS', ?_, ?_, ?_, ?_, fun post h => ?_⟩
      · rw [ws_sub_s, hpp]
        rcases hT.1 with ⟨rfl, rfl⟩ | ⟨rfl, rfl, e1⟩
        · exact Or.inl hsub
        · exact Or.inr ⟨by omega, by rw [hpre w (by omega), pk_us], hsub⟩
      · rcases hT.1 with ⟨rfl, rfl⟩ | ⟨rfl, rfl, e1⟩ <;> omega
      · intro s hs
        rcases hT.1 with ⟨rfl, rfl⟩ | ⟨rfl, rfl, e1⟩
        · exact hpre s hs
        · rw [hpre s (by omega), pk_un (show s ≠ w by omega)]
      · intro j hj
        obtain ⟨q1, q2⟩ := hcn j hj
        rcases hT.1 with ⟨rfl, rfl⟩ | ⟨rfl, rfl, e1⟩
        · refine ⟨fun z => q1 ?_, q2⟩
          by_cases e : j = p
          · rw [e] at z
            exact absurd z e0
          · rw [hT.2.1 j e]
            exact z
        · have ew : wr' w = nI p := by rw [hpre w (by omega), pk_us]
          rw [ws_cnt_s] at q1 q2
          by_cases e : j = p
          · subst e
            rw [if_pos ew] at q1 q2
            have := q1 e1
            exact ⟨fun z => absurd z e0, by omega⟩
          · rw [if_neg (fun z => e ((nI_eq (by omega) (by omega)).mp (ew.symm.trans z)).symm)] at q1 q2
            exact ⟨fun z => q1 (by rw [hT.2.1 j e]; exact z), q2⟩
      · have g := gx post h
        obtain ⟨ub, vV, vC, hV, it, sw, ew, lb, vw, co, nx, lc, mc, fc, rv, wn, rd, ra, rfl, hR⟩ := hS
        obtain ⟨ub1, vV1, vC1, hV1, it1, sw1, ew1, lb1, vw1, co1, nx1, lc1, mc1, fc1, rv1, wn1, rd1, ra1, rfl, hR1⟩ := hS1
        refine br_f (nI_ge (b := 8) (by omega) (by omega)) (nm_r ep ?_)
        refine wx_can_t hn hpn eh e0 (br_f (by decide) (sx _ ?_))
        exact nm_e (nm_r (nI_1 t) g)
theorem wq_sch {n L : Nat} {m : Int32} {B : Nat → Nat} {H : Nat → Int32} {w : Nat} {wr ph st : Nat → Int32} {u : St2} (x : Int32) (hn : n ≤ 6) (hS : wq_S n L m B H w wr ph st u) :
    ∃ r w' wr' ph' st' u', wq_S n L m B H w' wr' ph' st' u' ∧ ws_sub wr' (wq_dg x) w' 8 0 w ∧ w ≤ w' ∧ (∀ s, s < w → wr' s = wr s) ∧ (∀ j, j < n → ws_cnt wr' j w' ≤ ws_cnt wr' j w + 1) ∧ (∀ post, post r u' → wpX_schedule post u x) := by
  obtain ⟨r, w', wr', ph', st', u', hS', hsub, hle, hpre, hcn, gx⟩ := wq_sch_lp x hn 8 0 0 w wr ph st u rfl hS
  refine ⟨r, w', wr', ph', st', u', hS', hsub, hle, hpre, fun j hj => (hcn j hj).2, fun post h => ?_⟩
  have g := gx post h
  obtain ⟨ub, vV, vC, hV, it, sw, ew, lb, vw, co, nx, lc, mc, fc, rv, wn, rd, ra, rfl, hR⟩ := hS
  exact ⟨_, g⟩
end
section
/-! begins, halt, and what is told, in the picture of the law -/
def wq_ub (B : Nat → Nat) (p b : Nat) : Nat → Nat := fun q => if q = p then b else B q
theorem wq_ub_s (B : Nat → Nat) (p b : Nat) : wq_ub B p b p = b := if_pos rfl
theorem wq_ub_n (B : Nat → Nat) {p b q : Nat} (h : q ≠ p) : wq_ub B p b q = B q := if_neg h
section
variable {n L w ub : Nat} {m : Int32} {B : Nat → Nat} {vV vC hV H ph st it sw ew lb vw co nx lc mc fc rv wr wn rd ra : Nat → Int32} {p : Nat}
theorem wq_begun {t ub' b : Nat} {it' : Nat → Int32} (hR : wq_R n L w ub m B vV vC hV ph st it sw ew vw co nx lc mc fc rv wr wn rd ra) (hp : p < n) (e0 : ph p = 0) (ht : (t = 1 ∧ ub' = ub ∧ b = 0) ∨ (t = 2 ∧ ub' = ub + 1 ∧ ub < L ∧ b = 1 ∧ it' p = wq_val m p (ws_cnt wr p w + 1))) (hit : ∀ q, q ≠ p → it' q = it q) :
    wq_R n L w ub' m (wq_ub B p b) vV vC hV (upd ph p (nI t)) (upd st p 0) it' (upd sw p (nI w)) (upd ew p (-6)) (upd vw p (-6)) (upd co p 1) (upd nx p 0) lc (ws_fill mc (p * 6) 6 0) fc (ws_fill rv (p * 6) 6 (-6)) wr wn (upd rd p 0) ra := by
  obtain ⟨h2, h6, hL, hub, hact, hV', hH, hLg, hP, hE⟩ := hR
  have ac := ws_act_upd ph p (nI t) n hp
  rw [e0, show ws_b 0 = 0 from by decide] at ac
  have bt : ws_b (nI t) = ub' - ub ∧ ub ≤ ub' ∧ ub' ≤ L := by
    rcases ht with ⟨rfl, rfl, _⟩ | ⟨rfl, rfl, z, _⟩
    · exact ⟨by rw [Nat.sub_self]; decide, by omega, by omega⟩
    · exact ⟨by rw [Nat.add_sub_cancel_left]; decide, by omega, by omega⟩
  refine ⟨h2, h6, hL, by omega, by omega, hV', hH, hLg, ?_, ?_⟩
  · intro q hq
    by_cases e : q = p
    · subst e
      rw [pk_us, pk_us, pk_us, pk_us, pk_us, pk_us]
      exact ws_P_new h2 (by omega) (fun j hj => ws_fill_in mc (q * 6) 6 0 j hj) (fun j hj => ws_fill_in rv (q * 6) 6 (-6) j hj) h6
    · rw [pk_un e, pk_un e, pk_un e, pk_un e, pk_un e, pk_un e]
      exact ws_P_ext (Nat.le_refl w) (by omega) h6 (fun _ _ _ => rfl) (fun _ _ => rfl) (fun j hj => ws_fill_out _ _ _ _ _ (by omega)) (fun _ _ => rfl) (fun j hj => ws_fill_out _ _ _ _ _ (by omega)) (hP q hq)
  · intro q hq
    by_cases e : q = p
    · subst e
      rw [pk_us, pk_us, pk_us, pk_us, pk_us, pk_us, wq_ub_s]
      refine ⟨0, t, 0, rfl, by omega, rfl, by omega, rfl, by omega, by omega, fun _ => rfl, fun z => by omega, fun z => ?_, Or.inr ⟨w, Nat.le_refl w, rfl, fun s hs => by omega, fun _ => rfl, fun z => by omega, fun _ => rfl⟩⟩
      rcases ht with y | ⟨_, _, _, y1, y2⟩
      · omega
      · exact ⟨y1, y2⟩
    · rw [pk_un e, pk_un e, pk_un e, pk_un e, pk_un e, pk_un e, wq_ub_n B e, hit q e]
      exact hE q hq
end
section
variable {n L w : Nat} {m : Int32} {B : Nat → Nat} {H wr ph st : Nat → Int32} {u : St2} {p : Nat}
theorem wq_scan (hS : wq_S n L m B H w wr ph st u) (hp : p < n) (eh : H p = 0) (e0 : ph p = 0) :
    ∃ ph' st' u', wq_S n L m (wq_ub B p 0) H w wr ph' st' u' ∧ (∀ post, post 0 u' → wpX_beginScan post u (nI p)) := by
  obtain ⟨ub, vV, vC, hV, it, sw, ew, lb, vw, co, nx, lc, mc, fc, rv, wn, rd, ra, rfl, hR⟩ := hS
  have h6 := hR.2.1
  have hp6 : p < 6 := by omega
  refine ⟨_, _, _, wq_S_i (H := H) (lb := upd lb p (-6)) (wq_begun (t := 1) (it' := it) hR hp e0 (Or.inl ⟨rfl, rfl, rfl⟩) (fun _ _ => rfl)), fun post h => ?_⟩
  unfold wpX_beginScan
  refine wx_ref_0 hp h6 eh e0 (br_t rfl ?_)
  exact wx_begin hp6 h
theorem wq_update (hS : wq_S n L m B H w wr ph st u) (hp : p < n) (eh : H p = 0) (e0 : ph p = 0) :
    (∃ ph' st' u', wq_S n L m (wq_ub B p 1) H w wr ph' st' u' ∧ (∀ post, post 0 u' → wpX_beginUpdate post u (nI p) (wq_val m p (ws_cnt wr p w + 1)))) ∨ (∀ (v : Int32) (post : Int32 → St2 → Prop), post (-4) u → wpX_beginUpdate post u (nI p) v) := by
  obtain ⟨ub, vV, vC, hV, it, sw, ew, lb, vw, co, nx, lc, mc, fc, rv, wn, rd, ra, rfl, hR⟩ := hS
  have h6 := hR.2.1
  have hL := hR.2.2.1
  have hub := hR.2.2.2.1
  have hp6 : p < 6 := by omega
  by_cases hf : ub < L
  · refine Or.inl ⟨_, _, _, wq_S_i (H := H) (lb := upd lb p (-6)) (wq_begun (t := 2) (it' := upd it p (wq_val m p (ws_cnt wr p w + 1))) hR hp e0 (Or.inr ⟨rfl, rfl, hf, rfl, pk_us⟩) (fun q hq => pk_un hq)), fun post h => ?_⟩
    unfold wpX_beginUpdate
    refine wx_ref_0 hp h6 eh e0 (br_t rfl (br_t (nI_lt hf (by omega)) (nm_r (nI_1 ub) ?_)))
    exact wx_begin hp6 ⟨ws_in hp6, nm_r (ws_u (by omega) it _) h⟩
  · refine Or.inr (fun v post h => ?_)
    unfold wpX_beginUpdate
    exact wx_ref_0 hp h6 eh e0 (br_t rfl (br_f (nI_nlt (by omega) (by omega)) h))
theorem wq_halt (hS : wq_S n L m B H w wr ph st u) (hp : p < n) : ∃ r H' u', wq_S n L m B H' w wr ph st u' ∧ (∀ post, post r u' → wpX_halt post u (nI p)) := by
  have h0 := hS
  obtain ⟨ub, vV, vC, hV, it, sw, ew, lb, vw, co, nx, lc, mc, fc, rv, wn, rd, ra, rfl, hR⟩ := hS
  have h6 := hR.2.1
  have hp6 : p < 6 := by omega
  by_cases eh : H p = 0
  · refine ⟨0, upd H p 1, _, wq_S_i (lb := lb) hR, fun post h => ?_⟩
    unfold wpX_halt
    exact wx_in hp h6 (br_f (by decide) ⟨ws_in hp6, br_t (ws_t (f := H) (by omega) eh) ⟨ws_in hp6, nm_r (ws_u (by omega) H _) h⟩⟩)
  · refine ⟨-2, H, _, h0, fun post h => ?_⟩
    unfold wpX_halt
    exact wx_in hp h6 (br_f (by decide) ⟨ws_in hp6, br_f (ws_nt (f := H) (by omega) eh) h⟩)
theorem wq_phase (hS : wq_S n L m B H w wr ph st u) (hp : p < n) {post : Int32 → Prop} (h1 : H p = 0 → post (ph p)) (h2 : ¬ H p = 0 → post (ph p + 4)) : wpX_phase post u (nI p) := by
  obtain ⟨ub, vV, vC, hV, it, sw, ew, lb, vw, co, nx, lc, mc, fc, rv, wn, rd, ra, rfl, hR⟩ := hS
  have h6 := hR.2.1
  have hp6 : p < 6 := by omega
  unfold wpX_phase
  refine wx_in hp h6 (br_f (by decide) ⟨ws_in hp6, ?_⟩)
  by_cases eh : H p = 0
  · refine br_t (ws_t (f := H) (by omega) eh) ⟨ws_in hp6, ?_⟩
    rw [ws_r (by omega) ph]
    exact h1 eh
  · refine br_f (ws_nt (f := H) (by omega) eh) ⟨ws_in hp6, ?_⟩
    rw [ws_r (by omega) ph]
    exact h2 eh
theorem wq_ph4 (hS : wq_S n L m B H w wr ph st u) (hp : p < n) : ∃ t, t < 4 ∧ ph p = nI t := by
  obtain ⟨ub, vV, vC, hV, it, sw, ew, lb, vw, co, nx, lc, mc, fc, rv, wn, rd, ra, rfl, hR⟩ := hS
  obtain ⟨r, t, hr, ht, er, et, _⟩ := hR.2.2.2.2.2.2.2.2.1 p hp
  exact ⟨t, ht, et⟩
theorem wq_steps (hS : wq_S n L m B H w wr ph st u) (hp : p < n) {post : Int32 → Prop} (h : post (st p)) : wpX_steps post u (nI p) := by
  obtain ⟨ub, vV, vC, hV, it, sw, ew, lb, vw, co, nx, lc, mc, fc, rv, wn, rd, ra, rfl, hR⟩ := hS
  have h6 := hR.2.1
  unfold wpX_steps
  refine wx_in hp h6 (br_f (by decide) ⟨ws_in (by omega), ?_⟩)
  rw [ws_r (by omega) st]
  exact h
end
section
variable {n L w ub : Nat} {m : Int32} {B : Nat → Nat} {vV vC hV H ph st it sw ew lb vw co nx lc mc fc rv wr wn rd ra : Nat → Int32} {p : Nat}
theorem wx_told2 {post : Int32 → Prop} {j : Nat} (hp : p < n) (hj : j < n) (h6 : n ≤ 6) (h : post (nI w)) : wpX_versionTold post ((nI n), (nI L), (nI w), (nI ub), vV, vC, hV, H, ph, st, it, sw, ew, lb, vw, co, nx, lc, mc, fc, rv) 2 (nI p) (nI j) := by
  unfold wpX_versionTold
  exact wx_in hp h6 (br_f (by decide) (wx_in hj h6 (br_f (by decide) (br_f (by decide) (br_f (by decide) (br_f (by decide) (br_f (by decide) (br_t rfl h))))))))
theorem wx_told0 {post : Int32 → Prop} {j : Nat} (hp : p < n) (hj : j < n) (h6 : n ≤ 6) (h : post (vw p)) : wpX_versionTold post ((nI n), (nI L), (nI w), (nI ub), vV, vC, hV, H, ph, st, it, sw, ew, lb, vw, co, nx, lc, mc, fc, rv) 0 (nI p) (nI j) := by
  unfold wpX_versionTold
  refine wx_in hp h6 (br_f (by decide) (wx_in hj h6 (br_f (by decide) (br_f (by decide) (br_f (by decide) (br_t rfl ⟨ws_in (by omega), ?_⟩))))))
  rw [ws_r (by omega) vw]
  exact h
theorem wq_cnt2 (hR : wq_R n L w ub m B vV vC hV ph st it sw ew vw co nx lc mc fc rv wr wn rd ra) {post : Int32 → Prop} {j : Nat} (hj : j < n) (h : post (nI (ws_cnt wr j w))) : wpX_count post ((nI n), (nI L), (nI w), (nI ub), vV, vC, hV, H, ph, st, it, sw, ew, lb, vw, co, nx, lc, mc, fc, rv) 2 0 (nI j) := by
  obtain ⟨h2, h6, hL, hub, hact, hV', hH, hLg, hP, hE⟩ := hR
  unfold wpX_count
  refine wx_told2 (p := 0) (by omega) hj h6 (br_t (nI_pos' (by omega)) (wx_cell ⟨ws_in (by omega), ?_⟩))
  rw [ws_r (by omega) vC, (hV' w j (Nat.le_refl w) (by omega)).1]
  exact h
theorem wq_val2 (hR : wq_R n L w ub m B vV vC hV ph st it sw ew vw co nx lc mc fc rv wr wn rd ra) {post : Int32 → Prop} {j : Nat} (hj : j < n) (h : post (wq_val m j (ws_cnt wr j w))) : wpX_value post ((nI n), (nI L), (nI w), (nI ub), vV, vC, hV, H, ph, st, it, sw, ew, lb, vw, co, nx, lc, mc, fc, rv) 2 0 (nI j) := by
  obtain ⟨h2, h6, hL, hub, hact, hV', hH, hLg, hP, hE⟩ := hR
  unfold wpX_value
  refine wx_told2 (p := 0) (by omega) hj h6 (br_t (nI_pos' (by omega)) (wx_cell ⟨ws_in (by omega), ?_⟩))
  rw [ws_r (by omega) vV, (hV' w j (Nat.le_refl w) (by omega)).2, wq_last h6 hLg j (by omega) w (Nat.le_refl w)]
  exact h
theorem wq_ver2 (hR : wq_R n L w ub m B vV vC hV ph st it sw ew vw co nx lc mc fc rv wr wn rd ra) {post : Int32 → Prop} (h : post (nI w)) : wpX_version post ((nI n), (nI L), (nI w), (nI ub), vV, vC, hV, H, ph, st, it, sw, ew, lb, vw, co, nx, lc, mc, fc, rv) 2 0 := by
  obtain ⟨h2, h6, _⟩ := hR
  unfold wpX_version wX_version_16
  exact br_f (by decide) (wx_told2 (p := 0) (j := 0) (by omega) (by omega) h6 h)
theorem wq_ver0 (hR : wq_R n L w ub m B vV vC hV ph st it sw ew vw co nx lc mc fc rv wr wn rd ra) {post : Int32 → Prop} (hp : p < n) (h : post (vw p)) : wpX_version post ((nI n), (nI L), (nI w), (nI ub), vV, vC, hV, H, ph, st, it, sw, ew, lb, vw, co, nx, lc, mc, fc, rv) 0 (nI p) := by
  obtain ⟨h2, h6, _⟩ := hR
  unfold wpX_version wX_version_16
  exact br_f (by decide) (wx_told0 (j := 0) hp (by omega) h6 h)
theorem wq_cnt0 (hR : wq_R n L w ub m B vV vC hV ph st it sw ew vw co nx lc mc fc rv wr wn rd ra) {post : Int32 → Prop} {j v : Nat} (hp : p < n) (hj : j < n) (ev : vw p = nI v) (hv : v ≤ w) (h : post (nI (ws_cnt wr j v))) : wpX_count post ((nI n), (nI L), (nI w), (nI ub), vV, vC, hV, H, ph, st, it, sw, ew, lb, vw, co, nx, lc, mc, fc, rv) 0 (nI p) (nI j) := by
  obtain ⟨h2, h6, hL, hub, hact, hV', hH, hLg, hP, hE⟩ := hR
  unfold wpX_count
  refine wx_told0 hp hj h6 ?_
  rw [ev]
  refine br_t (nI_pos' (by omega)) (wx_cell ⟨ws_in (by omega), ?_⟩)
  rw [ws_r (by omega) vC, (hV' v j hv (by omega)).1]
  exact h
theorem wq_val0 (hR : wq_R n L w ub m B vV vC hV ph st it sw ew vw co nx lc mc fc rv wr wn rd ra) {post : Int32 → Prop} {j v : Nat} (hp : p < n) (hj : j < n) (ev : vw p = nI v) (hv : v ≤ w) (h : post (wq_val m j (ws_cnt wr j v))) : wpX_value post ((nI n), (nI L), (nI w), (nI ub), vV, vC, hV, H, ph, st, it, sw, ew, lb, vw, co, nx, lc, mc, fc, rv) 0 (nI p) (nI j) := by
  obtain ⟨h2, h6, hL, hub, hact, hV', hH, hLg, hP, hE⟩ := hR
  unfold wpX_value
  refine wx_told0 hp hj h6 ?_
  rw [ev]
  refine br_t (nI_pos' (by omega)) (wx_cell ⟨ws_in (by omega), ?_⟩)
  rw [ws_r (by omega) vV, (hV' v j hv (by omega)).2, wq_last h6 hLg j (by omega) v hv]
  exact h
theorem wq_start (h6 : n ≤ 6) {post : Int32 → Prop} (hp : p < n) (h : post (sw p)) : wpX_startedAt post ((nI n), (nI L), (nI w), (nI ub), vV, vC, hV, H, ph, st, it, sw, ew, lb, vw, co, nx, lc, mc, fc, rv) (nI p) := by
  unfold wpX_startedAt
  refine wx_in hp h6 (br_f (by decide) ⟨ws_in (by omega), ?_⟩)
  rw [ws_r (by omega) sw]
  exact h
theorem wq_ended (h6 : n ≤ 6) {post : Int32 → Prop} (hp : p < n) (h : post (ew p)) : wpX_endedAt post ((nI n), (nI L), (nI w), (nI ub), vV, vC, hV, H, ph, st, it, sw, ew, lb, vw, co, nx, lc, mc, fc, rv) (nI p) := by
  unfold wpX_endedAt
  refine wx_in hp h6 (br_f (by decide) ⟨ws_in (by omega), ?_⟩)
  rw [ws_r (by omega) ew]
  exact h
end
end
section
/-! the law's own functions: cell, mix, val, and cnt over the packed log -/
theorem wq_cell {xs : Nat → Int32} {L a : Nat} (hL : L ≤ 260) (ha : a < 2 ^ 31) : ∃ r : Int32, ∀ post : Int32 → Prop, post r → wpL_cell post L xs () (nI a) := by
  by_cases z : L ≤ a
  · exact ⟨0, fun post h => br_t (nI_le z ha) h⟩
  · exact ⟨xs (nI a).toNatClampNeg, fun post h => br_f (nI_ge (by omega) (by omega)) ⟨vp_in_nI (by omega) (by omega), h⟩⟩
theorem wq_mixw {post : Int32 → Prop} {c k : Int32} (h : post (wq_mx c k)) : wpL_mix post () c k := nm_e (nm_e (nm_e (nm_e h)))
theorem wq_mx_n (c k : Int32) : ∃ a : Nat, a < 2 ^ 31 ∧ wq_mx c k = nI a := pk_andE _ (m := 2147483647) 31 (by decide)
theorem wq_cm {xs : Nat → Int32} {L a : Nat} (hL : L ≤ 260) (ha : a < 2 ^ 31) : ∃ x : Nat, x < 2 ^ 31 ∧ ∀ post : Int32 → Prop, post (nI x) → ∀ k : Int32, k = nI a → wpL_cell (fun r => wpL_mix post () r k) L xs () (nI a) := by
  obtain ⟨r, hr⟩ := wq_cell (xs := xs) (L := L) hL ha
  obtain ⟨x, hx, ex⟩ := wq_mx_n r (nI a)
  refine ⟨x, hx, fun post h k hk => hr _ ?_⟩
  rw [hk]
  refine wq_mixw ?_
  rw [ex]
  exact h
theorem wq_valw {post : Int32 → Prop} {m j c : Int32} (h : post (wq_vI m j c)) : wpL_val post () m j c := by
  unfold wq_vI at h
  by_cases h0 : c = 0
  · rw [if_pos h0] at h
    exact br_t h0 h
  · rw [if_neg h0] at h
    by_cases m0 : m = 0
    · rw [if_pos m0] at h
      exact br_f h0 (br_t m0 h)
    · rw [if_neg m0] at h
      by_cases m1 : m = 1
      · rw [if_pos m1] at h
        exact br_f h0 (br_f m0 (br_t m1 h))
      · rw [if_neg m1] at h
        by_cases m2 : m = 2
        · rw [if_pos m2] at h
          exact br_f h0 (br_f m0 (br_f m1 (br_t m2 h)))
        · rw [if_neg m2] at h
          exact br_f h0 (br_f m0 (br_f m1 (br_f m2 (wq_mixw h))))
def wq_w (h : Int64) (k : Nat) (f : Nat → Nat) : Prop := ∃ G : Nat, h = lN G ∧ G < 8 ^ k ∧ ∀ i, i < k → G / 8 ^ i % 8 = f i
theorem wq_8 (k : Nat) : 2 ^ (3 * k) = 8 ^ k := by rw [Nat.pow_mul]
theorem wq_8lt (k : Nat) (hk : k ≤ 21) : 8 ^ k ≤ 2 ^ 63 := by
  rw [← wq_8]
  exact Nat.pow_le_pow_right (by decide) (by omega)
theorem wq_w_get {h : Int64} {k i : Nat} {f : Nat → Nat} (hk : k ≤ 21) (hi : i < k) (H : wq_w h k f) : ((h.toUInt64 >>> ((nI (3 * i)).toInt64.toUInt64 &&& Int64.toUInt64 63)).toInt64) &&& 7 = lN (f i) := by
  obtain ⟨G, rfl, hG, hd⟩ := H
  have h8 := wq_8lt k hk
  have hG2 : G < 2 ^ 64 := by omega
  rw [wb_shr hG2 (by omega), wq_8, show (7 : Int64) = lN (2 ^ 3 - 1) from rfl, wb_mask (Nat.lt_of_le_of_lt (Nat.div_le_self _ _) hG2) (by decide), ← hd i hi]
theorem wq_dig_lo {G d k i : Nat} (hi : i < k) : (G + d * 8 ^ k) / 8 ^ i % 8 = G / 8 ^ i % 8 := by
  have e : d * 8 ^ k = (d * 8 ^ (k - i - 1) * 8) * 8 ^ i := by
    rw [Nat.mul_assoc, Nat.mul_assoc, ← Nat.pow_succ', ← Nat.pow_add]
    congr 2
    omega
  rw [e, Nat.add_mul_div_right _ _ (Nat.pow_pos (by decide)), Nat.add_mul_mod_self_right]
theorem wq_dig_at {G d k : Nat} (hG : G < 8 ^ k) (hd : d < 8) : (G + d * 8 ^ k) / 8 ^ k % 8 = d := by
  rw [Nat.add_mul_div_right _ _ (Nat.pow_pos (by decide)), Nat.div_eq_of_lt hG, Nat.zero_add, Nat.mod_eq_of_lt hd]
theorem wq_w_put {h : Int64} {k d : Nat} {f : Nat → Nat} (hk : k < 21) (hd : d < 8) (ef : f k = d) (H : wq_w h k f) : wq_w (h ||| (lN d <<< ((nI (3 * k)).toInt64 &&& 63))) (k + 1) f := by
  obtain ⟨G, rfl, hG, hf⟩ := H
  have h8 := wq_8lt (k + 1) (by omega)
  rw [Nat.pow_succ] at h8
  have hD : d * 8 ^ k ≤ 7 * 8 ^ k := Nat.mul_le_mul_right _ (by omega)
  rw [wb_shl d (by omega), wq_8, g_or' (wq_8 k) hG (by omega)]
  refine ⟨_, rfl, by rw [Nat.pow_succ]; omega, fun i hi => ?_⟩
  by_cases e : i = k
  · rw [e, wq_dig_at hG hd]
    exact ef.symm
  · rw [wq_dig_lo (by omega)]
    exact hf i (by omega)
/-- the packed log of the first w writes -/
def wq_log (h0 h1 h2 : Int64) (wr : Nat → Int32) (w : Nat) : Prop := ∃ W : Nat → Nat, (∀ t, t < w → wr t = nI (W t) ∧ W t < 8) ∧
  wq_w h0 (if w < 21 then w else 21) W ∧ wq_w h1 (if w < 21 then 0 else if w < 42 then w - 21 else 21) (fun i => W (21 + i)) ∧ wq_w h2 (if w < 42 then 0 else if w < 63 then w - 42 else 21) (fun i => W (42 + i))
theorem wq_log_0 (wr : Nat → Int32) : wq_log 0 0 0 wr 0 :=
  ⟨fun _ => 0, fun t ht => by omega, ⟨0, rfl, by decide, fun i hi => absurd (show i < 0 from hi) (Nat.not_lt_zero i)⟩, ⟨0, rfl, by decide, fun i hi => absurd (show i < 0 from hi) (Nat.not_lt_zero i)⟩, ⟨0, rfl, by decide, fun i hi => absurd (show i < 0 from hi) (Nat.not_lt_zero i)⟩⟩
theorem wq_w_ext {h : Int64} {k : Nat} {f g : Nat → Nat} (e : ∀ i, i < k → g i = f i) (H : wq_w h k f) : wq_w h k g := by
  obtain ⟨G, e1, e2, e3⟩ := H
  exact ⟨G, e1, e2, fun i hi => by rw [e i hi]; exact e3 i hi⟩
theorem wq_log_ext {h0 h1 h2 : Int64} {wr wr' : Nat → Int32} {w : Nat} (h : wq_log h0 h1 h2 wr w) (e : ∀ t, t < w → wr' t = wr t) : wq_log h0 h1 h2 wr' w := by
  obtain ⟨W, a, b⟩ := h
  exact ⟨W, fun t ht => by rw [e t ht]; exact a t ht, b⟩
/-- the word that holds entry t, and the entry in it -/
theorem wq_log_get {h0 h1 h2 : Int64} {wr : Nat → Int32} {w t j : Nat} (h : wq_log h0 h1 h2 wr w) (ht : t < w) (hw : w ≤ 63) (hj : j < 8) (z : Int64) (hz : z = if t < 21 then h0 else if t < 42 then h1 else h2) :
    (((z.toUInt64 >>> ((3 * (nI t - nI t / 21 * 21)).toInt64.toUInt64 &&& Int64.toUInt64 63)).toInt64) &&& 7 = (nI j).toInt64) ↔ wr t = nI j := by
  obtain ⟨W, a, b0, b1, b2⟩ := h
  obtain ⟨e1, e2⟩ := a t ht
  have rem : nI t - nI t / 21 * 21 = nI (t % 21) := pk_rem (a := t) (d := 21) (by omega) (by decide) (by decide)
  have mul : (3 : Int32) * nI (t % 21) = nI (3 * (t % 21)) := pk_mul 3 (t % 21)
  rw [rem, mul, nI_l (n := j) (by omega), e1, nI_eq (by omega) (by omega)]
  have fin : ((z.toUInt64 >>> ((nI (3 * (t % 21))).toInt64.toUInt64 &&& Int64.toUInt64 63)).toInt64) &&& 7 = lN (W t) := by
    by_cases c1 : t < 21
    · rw [if_pos c1] at hz
      rw [hz, show t % 21 = t by omega]
      by_cases c : w < 21
      · rw [if_pos c] at b0
        exact wq_w_get (by omega) ht b0
      · rw [if_neg c] at b0
        exact wq_w_get (by omega) c1 b0
    · rw [if_neg c1] at hz
      by_cases c2 : t < 42
      · rw [if_pos c2] at hz
        rw [hz, show t % 21 = t - 21 by omega, show W t = (fun i => W (21 + i)) (t - 21) by show W t = W (21 + (t - 21)); congr 1; omega]
        rw [if_neg (by omega)] at b1
        by_cases c : w < 42
        · rw [if_pos c] at b1
          exact wq_w_get (by omega) (by omega) b1
        · rw [if_neg c] at b1
          exact wq_w_get (by omega) (by omega) b1
      · rw [if_neg c2] at hz
        rw [hz, show t % 21 = t - 42 by omega, show W t = (fun i => W (42 + i)) (t - 42) by show W t = W (42 + (t - 42)); congr 1; omega]
        rw [if_neg (by omega)] at b2
        by_cases c : w < 63
        · rw [if_pos c] at b2
          exact wq_w_get (by omega) (by omega) b2
        · rw [if_neg c] at b2
          exact wq_w_get (by omega) (by omega) b2
  rw [fin]
  exact lN_eq (by omega) (by omega)
theorem wq_cnt_lp {post : Int32 → Prop} {h0 h1 h2 : Int64} {wr : Nat → Int32} {w j v : Nat} (hl : wq_log h0 h1 h2 wr w) (hw : w ≤ 63) (hv : v ≤ w) (hj : j < 8) : ∀ d k : Nat, k + d = v → post (nI (ws_cnt wr j v)) →
    wL_cnt_6 post h0 h1 h2 (nI v) (nI j) (d + 1) (nI (ws_cnt wr j k)) (nI k) := by
  intro d
  induction d with
  | zero =>
    intro k hk h
    have e : k = v := by omega
    subst e
    exact br_t (nI_le (Nat.le_refl _) (by omega)) h
  | succ d ih =>
    intro k hk h
    have g := ih (k + 1) (by omega) h
    rw [ws_cnt_s] at g
    have fin : ∀ z : Int64, (z = if k < 21 then h0 else if k < 42 then h1 else h2) → wL_cnt_44 post (wL_cnt_6 post h0 h1 h2 (nI v) (nI j) (d + 1)) h0 h1 h2 (nI v) (nI j) (nI (ws_cnt wr j k)) (nI k) z := by
      intro z hz
      have q := wq_log_get hl (show k < w by omega) hw hj z hz
      refine ⟨by decide, ?_⟩
      by_cases y : wr k = nI j
      · rw [if_pos y] at g
        exact br_t (q.mpr y) (nm_r (nI_1 _) (nm_r (nI_1 k) g))
      · rw [if_neg y] at g
        exact br_f (fun c => y (q.mp c)) (nm_r (nI_1 k) g)
    refine br_f (nI_ge (by omega) (by omega)) (br_f (nI_ge (b := 63) (by omega) (by omega)) ?_)
    by_cases c1 : k < 21
    · exact br_f (nI_ge (b := 21) c1 (by omega)) (fin h0 (by rw [if_pos c1]))
    · refine br_t (nI_le (a := 21) (by omega) (by omega)) ?_
      by_cases c2 : k < 42
      · exact br_f (nI_ge (b := 42) c2 (by omega)) (fin h1 (by rw [if_neg c1, if_pos c2]))
      · exact br_t (nI_le (a := 42) (by omega) (by omega)) (fin h2 (by rw [if_neg c1, if_neg c2]))
theorem wq_cntw {post : Int32 → Prop} {h0 h1 h2 : Int64} {wr : Nat → Int32} {w j v : Nat} (hl : wq_log h0 h1 h2 wr w) (hw : w ≤ 63) (hv : v ≤ w) (hj : j < 8) (h : post (nI (ws_cnt wr j v))) : wpL_cnt post () h0 h1 h2 (nI v) (nI j) :=
  ⟨v + 1, wq_cnt_lp hl hw hv hj v 0 (by omega) h⟩
/-- one entry more -/
theorem wq_log_put {h0 h1 h2 x : Int64} {wr : Nat → Int32} {w d : Nat} (hl : wq_log h0 h1 h2 wr w) (hw : w < 63) (hd : d < 8) (e : wr w = nI d) (hx : x = lN d <<< ((3 * (nI w - nI w / 21 * 21)).toInt64 &&& 63)) :
    wq_log (if w < 21 then h0 ||| x else h0) (if w < 21 then h1 else if w < 42 then h1 ||| x else h1) (if w < 42 then h2 else h2 ||| x) wr (w + 1) := by
  obtain ⟨W, a, b0, b1, b2⟩ := hl
  have rem : nI w - nI w / 21 * 21 = nI (w % 21) := pk_rem (a := w) (d := 21) (by omega) (by decide) (by decide)
  have mul : (3 : Int32) * nI (w % 21) = nI (3 * (w % 21)) := pk_mul 3 (w % 21)
  rw [rem, mul] at hx
  have Wd : ∀ t, t < w → (if t = w then d else W t) = W t := fun t ht => if_neg (by omega)
  refine ⟨fun t => if t = w then d else W t, fun t ht => ?_, ?_, ?_, ?_⟩
  · by_cases c : t = w
    · show wr t = nI (if t = w then d else W t) ∧ (if t = w then d else W t) < 8
      rw [if_pos c, c]
      exact ⟨e, hd⟩
    · show wr t = nI (if t = w then d else W t) ∧ (if t = w then d else W t) < 8
      rw [if_neg c]
      exact a t (by omega)
  · by_cases c : w < 21
    · rw [if_pos c] at b0
      rw [if_pos c, hx, show w % 21 = w by omega]
      have k : (if w + 1 < 21 then w + 1 else 21) = w + 1 := by split <;> omega
      rw [k]
      exact wq_w_put c hd (if_pos rfl) (wq_w_ext (fun i hi => Wd i hi) b0)
    · rw [if_neg c] at b0
      rw [if_neg c, if_neg (show ¬ w + 1 < 21 by omega)]
      exact wq_w_ext (fun i hi => Wd i (by omega)) b0
  · by_cases c : w < 21
    · rw [if_pos c] at b1
      have k : (if w + 1 < 21 then 0 else if w + 1 < 42 then w + 1 - 21 else 21) = 0 := by
        by_cases c' : w + 1 < 21
        · rw [if_pos c']
        · rw [if_neg c', if_pos (by omega)]
          omega
      rw [if_pos c, k]
      exact wq_w_ext (fun i hi => by omega) b1
    · rw [if_neg c] at b1
      rw [if_neg c, if_neg (show ¬ w + 1 < 21 by omega)]
      by_cases c2 : w < 42
      · rw [if_pos c2] at b1
        rw [if_pos c2, hx, show w % 21 = w - 21 by omega]
        have k : (if w + 1 < 42 then w + 1 - 21 else 21) = (w - 21) + 1 := by split <;> omega
        rw [k]
        refine wq_w_put (by omega) hd ?_ (wq_w_ext (fun i hi => Wd (21 + i) (by omega)) b1)
        show (if 21 + (w - 21) = w then d else W (21 + (w - 21))) = d
        rw [if_pos (by omega)]
      · rw [if_neg c2] at b1
        rw [if_neg c2, if_neg (show ¬ w + 1 < 42 by omega)]
        exact wq_w_ext (fun i hi => Wd (21 + i) (by omega)) b1
  · by_cases c : w < 42
    · rw [if_pos c] at b2
      have k : (if w + 1 < 42 then 0 else if w + 1 < 63 then w + 1 - 42 else 21) = 0 := by
        by_cases c' : w + 1 < 42
        · rw [if_pos c']
        · rw [if_neg c', if_pos (by omega)]
          omega
      rw [if_pos c, k]
      exact wq_w_ext (fun i hi => by omega) b2
    · rw [if_neg c, if_pos hw] at b2
      rw [if_neg c, if_neg (show ¬ w + 1 < 42 by omega), hx, show w % 21 = w - 42 by omega]
      have k : (if w + 1 < 63 then w + 1 - 42 else 21) = (w - 42) + 1 := by split <;> omega
      rw [k]
      refine wq_w_put (by omega) hd ?_ (wq_w_ext (fun i hi => Wd (42 + i) (by omega)) b2)
      show (if 42 + (w - 42) = w then d else W (42 + (w - 42))) = d
      rw [if_pos (by omega)]
end
section
/-! the law's own log after a round: each new entry is found, in its order -/
theorem ws_sub_le {wr : Nat → Int32} {d : Nat → Nat} {wF : Nat} : ∀ m i t : Nat, ws_sub wr d wF m i t → t ≤ wF := by
  intro m
  induction m with
  | zero => intro i t h; exact Nat.le_of_eq h
  | succ m ih =>
    intro i t h
    rcases h with h | ⟨h, _⟩
    · exact ih _ _ h
    · omega
theorem ws_sub_cnt {wr : Nat → Int32} {d : Nat → Nat} {wF j : Nat} (hd : ∀ i, d i < 16) (hj : j < 16) : ∀ m i t : Nat, ws_sub wr d wF m i t → (∀ a, i ≤ a → a < i + m → d a ≠ j) → ws_cnt wr j wF = ws_cnt wr j t := by
  intro m
  induction m with
  | zero => intro i t h _; rw [show t = wF from h]
  | succ m ih =>
    intro i t h hn
    have hn' : ∀ a, i + 1 ≤ a → a < i + 1 + m → d a ≠ j := fun a a1 a2 => hn a (by omega) (by omega)
    rcases h with h | ⟨h1, h2, h3⟩
    · exact ih _ _ h hn'
    · have h4 := hd i
      rw [ih _ _ h3 hn', ws_cnt_s, if_neg]
      intro z
      exact hn i (by omega) (by omega) ((nI_eq (by omega) (by omega)).mp (h2.symm.trans z))
theorem ws_sub_drop {wr : Nat → Int32} {d : Nat → Nat} {wF : Nat} : ∀ m i t : Nat, ws_sub wr d wF m i t → t < wF → ws_sub wr d wF m i (t + 1) := by
  intro m
  induction m with
  | zero =>
    intro i t h ht
    have : t = wF := h
    omega
  | succ m ih =>
    intro i t h ht
    rcases h with h | ⟨h1, h2, h3⟩
    · exact Or.inl (ih _ _ h ht)
    · exact Or.inl h3
theorem ws_sub_first {wr : Nat → Int32} {d : Nat → Nat} {wF j : Nat} (hd : ∀ i, d i < 16) (hj : j < 16) (hC : ∀ a b c, a < b → b < c → c < 8 → d a = d c → d b = d a) : ∀ m i t : Nat, i + 1 + m = 8 → d i = j → ws_sub wr d wF m (i + 1) t → ws_cnt wr j t < ws_cnt wr j wF → wr t = nI j ∧ t < wF := by
  intro m
  induction m with
  | zero =>
    intro i t _ _ h hc
    rw [show t = wF from h] at hc
    omega
  | succ m ih =>
    intro i t hi e h hc
    by_cases z : d (i + 1) = j
    · rcases h with h | ⟨h1, h2, h3⟩
      · exact ih (i + 1) t (by omega) z h hc
      · rw [z] at h2
        exact ⟨h2, h1⟩
    · have := ws_sub_cnt hd hj (m + 1) (i + 1) t h (fun a a1 a2 y => by
        by_cases q : a = i + 1
        · rw [q] at y
          exact z y
        · exact z ((hC i (i + 1) a (by omega) (by omega) (by omega) (e.trans y.symm)).trans e))
      omega
def wq_Dt (wr : Nat → Int32) (d : Nat → Nat) (wF i t : Nat) : Prop := ws_sub wr d wF (8 - i) i t ∧ (∀ a, i = a + 1 → i < 8 → d i = d a → ws_cnt wr (d i) wF = ws_cnt wr (d i) t)
theorem wq_Dt_skip {wr : Nat → Int32} {d : Nat → Nat} {wF i t : Nat} (hd : ∀ i, d i < 16) (hi : i < 8) (h : wq_Dt wr d wF i t) (hE : ws_cnt wr (d i) wF = ws_cnt wr (d i) t) : wq_Dt wr d wF (i + 1) t := by
  obtain ⟨h1, h2⟩ := h
  rw [show 8 - i = (8 - (i + 1)) + 1 by omega] at h1
  refine ⟨?_, fun a ea _ e => ?_⟩
  · rcases h1 with h1 | ⟨a1, a2, a3⟩
    · exact h1
    · have m := ws_cnt_mon wr (d i) (show t + 1 ≤ wF by omega)
      rw [ws_cnt_s, if_pos a2] at m
      omega
  · have : a = i := by omega
    rw [this] at e
    rw [e]
    exact hE
theorem wq_Dt_take {wr : Nat → Int32} {d : Nat → Nat} {wF w0 i t : Nat} (hd : ∀ i, d i < 16) (hC : ∀ a b c, a < b → b < c → c < 8 → d a = d c → d b = d a) (hi : i < 8) (h : wq_Dt wr d wF i t) (h0 : w0 ≤ t) (h1 : ws_cnt wr (d i) wF ≤ ws_cnt wr (d i) w0 + 1) (hc : ws_cnt wr (d i) t < ws_cnt wr (d i) wF) :
    wr t = nI (d i) ∧ t < wF ∧ wq_Dt wr d wF (i + 1) (t + 1) := by
  obtain ⟨s1, s2⟩ := h
  rw [show 8 - i = (8 - (i + 1)) + 1 by omega] at s1
  have key : wr t = nI (d i) ∧ t < wF ∧ ws_sub wr d wF (8 - (i + 1)) (i + 1) (t + 1) := by
    rcases s1 with s | ⟨a1, a2, a3⟩
    · obtain ⟨b1, b2⟩ := ws_sub_first hd (hd i) hC (8 - (i + 1)) i t (by omega) rfl s hc
      exact ⟨b1, b2, ws_sub_drop _ _ _ s b2⟩
    · exact ⟨a2, a1, a3⟩
  refine ⟨key.1, key.2.1, key.2.2, fun a ea _ e => ?_⟩
  have : a = i := by omega
  rw [this] at e
  rw [e]
  have m1 := ws_cnt_mon wr (d i) h0
  have m2 := ws_cnt_mon wr (d i) (show t + 1 ≤ wF by omega)
  have e2 : ws_cnt wr (d i) (t + 1) = ws_cnt wr (d i) t + 1 := by rw [ws_cnt_s, if_pos key.1]
  omega
theorem wq_out_cnt {n w : Nat} {m : Int32} {wr wn : Nat → Int32} (h : wq_L n w m wr wn) (hn : n ≤ 6) {j : Nat} (hj : n ≤ j) (hj2 : j < 16) : ∀ v : Nat, v ≤ w → ws_cnt wr j v = 0 := by
  intro v
  induction v with
  | zero => intro _; rfl
  | succ v ih =>
    intro hv
    obtain ⟨i, hi, e, _⟩ := h v (by omega)
    rw [ws_cnt_s, if_neg]
    · exact ih (by omega)
    · intro z
      have := (nI_eq (by omega) (by omega)).mp (e.symm.trans z)
      omega
def wq_pv (d : Nat → Nat) : Nat → Int32
  | 0 => -1
  | i + 1 => nI (d i)
section
variable {n L w ub : Nat} {m : Int32} {B : Nat → Nat} {vV vC hV H ph st it sw ew lb vw co nx lc mc fc rv wr wn rd ra : Nat → Int32} {p : Nat}
theorem wq_det {post : Int32 → Prop} {N : Nat} {xs : Nat → Int32} {J : Int64 → Int64 → Int64 → Int32 → Int32 → Int32 → Int32 → Int32 → Int32 → Int32 → Int32 → (Nat → Int32) → (Nat → Int32) → (Nat → Int32) → (Nat → Int32) → (Nat → Int32) → (Nat → Int32) → (Nat → Int32) → (Nat → Int32) → (Nat → Int32) → (Nat → Int32) → (Nat → Int32) → (Nat → Int32) → (Nat → Int32) → (Nat → Int32) → (Nat → Int32) → (Nat → Int32) → (Nat → Int32) → Prop} {x4 x13 x14 x15 x16 x : Int32} {kc ks w0 : Nat}
    (hR : wq_R n L w ub m B vV vC hV ph st it sw ew vw co nx lc mc fc rv wr wn rd ra)
    (hC : ∀ a b c, a < b → b < c → c < 8 → wq_dg x a = wq_dg x c → wq_dg x b = wq_dg x a)
    (h1 : ∀ j, j < n → ws_cnt wr j w ≤ ws_cnt wr j w0 + 1)
    (hK : ∀ h0' h1' h2' : Int64, wq_log h0' h1' h2' wr w → ∃ fu : Nat, wL_law_726 post N xs J (nI n) m x4 h0' h1' h2' (nI w) x13 x14 x15 x16 kc ks (nI n) (nI L) (nI w) (nI ub) vV vC hV H ph st it sw ew lb vw co nx lc mc fc rv fu 0) :
    ∀ (d i t : Nat) (h0 h1' h2 : Int64), i + d = 8 → w0 ≤ t → wq_log h0 h1' h2 wr t → wq_Dt wr (wq_dg x) w i t →
    wL_law_578 post N xs J (nI n) m x4 x13 x14 x15 x16 x kc ks (nI n) (nI L) (nI w) (nI ub) vV vC hV H ph st it sw ew lb vw co nx lc mc fc rv (d + 1) h0 h1' h2 (nI t) (wq_pv (wq_dg x) i) (nI i) := by
  intro d
  have hd := wq_dg_lt x
  have hR0 := hR
  obtain ⟨h2n, h6, hL, hub, hact, hV', hH, hLg, hP, hE⟩ := hR
  have hw63 : w ≤ 63 := by omega
  induction d with
  | zero =>
    intro i t h0 h1' h2 hi hw0 hl hD
    have ei : i = 8 := by omega
    subst ei
    have et : t = w := hD.1
    subst et
    refine br_t (nI_le (a := 8) (b := 8) (by omega) (by omega)) (wq_ver2 hR0 (br_t rfl ?_))
    exact hK h0 h1' h2 hl
  | succ d ih =>
    intro i t h0 h1' h2 hi hw0 hl hD
    have hi8 : i < 8 := by omega
    have htw : t ≤ w := ws_sub_le _ _ _ hD.1
    have ep : ((x.toUInt32 >>> ((4 * nI i).toUInt32 &&& Int32.toUInt32 31)).toInt32) &&& 15 = nI (wq_dg x i) := by
      rw [Int32.mul_comm 4 (nI i)]
      exact wq_dig x i hi8
    have hdi := hd i
    have skip : ws_cnt wr (wq_dg x i) w = ws_cnt wr (wq_dg x i) t → wL_law_578 post N xs J (nI n) m x4 x13 x14 x15 x16 x kc ks (nI n) (nI L) (nI w) (nI ub) vV vC hV H ph st it sw ew lb vw co nx lc mc fc rv (d + 1) h0 h1' h2 (nI t) (nI (wq_dg x i)) (nI (i + 1)) :=
      fun z => ih (i + 1) t h0 h1' h2 (by omega) hw0 hl (wq_Dt_skip hd hi8 hD z)
    refine br_f (nI_ge (b := 8) hi8 (by omega)) (nm_r ep ?_)
    by_cases c1 : n ≤ wq_dg x i
    · exact br_t (nI_le c1 (by omega)) (nm_r (nI_1 i) (skip (by rw [wq_out_cnt hLg h6 c1 hdi w (Nat.le_refl w), wq_out_cnt hLg h6 c1 hdi t htw])))
    · refine br_f (nI_ge (by omega) (by omega)) ?_
      by_cases c2 : nI (wq_dg x i) = wq_pv (wq_dg x) i
      · refine br_t c2 (nm_r (nI_1 i) (skip ?_))
        cases i with
        | zero => exact absurd c2 (by
            show ¬ nI (wq_dg x 0) = -1
            intro z
            have q := congrArg Int32.toInt z
            rw [nI_toInt (by omega), show (-1 : Int32).toInt = -1 from by decide] at q
            omega)
        | succ a =>
          have hda := hd a
          have e := (nI_eq (by omega) (by omega)).mp (show nI (wq_dg x (a + 1)) = nI (wq_dg x a) from c2)
          exact hD.2 a rfl hi8 e
      · refine br_f c2 ?_
        by_cases c3 : 63 ≤ t
        · exact br_t (nI_le (a := 63) c3 (by omega)) (nm_r (nI_1 i) (skip (by rw [show t = w by omega])))
        · refine br_f (nI_ge (b := 63) (by omega) (by omega)) (wq_cnt2 hR0 (by omega) (wq_cntw hl (by omega) (Nat.le_refl t) (by omega) ?_))
          have q1 := ws_cnt_le wr (wq_dg x i) w
          have q2 := ws_cnt_le wr (wq_dg x i) t
          have q3 := ws_cnt_mon wr (wq_dg x i) htw
          refine pk_le (ws_cnt wr (wq_dg x i) w) (ws_cnt wr (wq_dg x i) t) (fun z => nm_r (nI_1 i) (skip (by omega))) (fun z => ⟨by decide, ?_⟩)
          obtain ⟨k1, k2, k3⟩ := wq_Dt_take hd hC hi8 hD hw0 (h1 _ (by omega)) z
          have lg := wq_log_put (x := lN (wq_dg x i) <<< ((3 * (nI t - nI t / 21 * 21)).toInt64 &&& 63)) hl (by omega) (by omega) k1 rfl
          refine nm_r (e' := lN (wq_dg x i) <<< ((3 * (nI t - nI t / 21 * 21)).toInt64 &&& 63)) (by rw [nI_l (by omega)]) ?_
          by_cases b1 : t < 21
          · rw [if_pos b1, if_pos b1, if_pos (show t < 42 by omega)] at lg
            exact br_f (nI_ge (b := 21) b1 (by omega)) (nm_e (nm_r (nI_1 t) (nm_r (nI_1 i) (ih (i + 1) (t + 1) _ _ _ (by omega) (by omega) lg k3))))
          · rw [if_neg b1, if_neg b1] at lg
            refine br_t (nI_le (a := 21) (by omega) (by omega)) ?_
            by_cases b2 : t < 42
            · rw [if_pos b2, if_pos b2] at lg
              exact br_f (nI_ge (b := 42) b2 (by omega)) (nm_e (nm_r (nI_1 t) (nm_r (nI_1 i) (ih (i + 1) (t + 1) _ _ _ (by omega) (by omega) lg k3))))
            · rw [if_neg b2, if_neg b2] at lg
              exact br_t (nI_le (a := 42) (by omega) (by omega)) (nm_e (nm_r (nI_1 t) (nm_r (nI_1 i) (ih (i + 1) (t + 1) _ _ _ (by omega) (by omega) lg k3))))
end
end
section
/-! the checks after a round -/
def ws_sum (wr : Nat → Int32) (v : Nat) : Nat → Nat
  | 0 => 0
  | k + 1 => ws_sum wr v k + ws_cnt wr k v
theorem ws_sum_s (wr : Nat → Int32) (v k : Nat) : ws_sum wr v (k + 1) = ws_sum wr v k + ws_cnt wr k v := rfl
theorem ws_sum_step {wr : Nat → Int32} {v i : Nat} (e : wr v = nI i) (hi : i < 2 ^ 31) : ∀ k : Nat, k < 2 ^ 31 → ws_sum wr (v + 1) k = ws_sum wr v k + (if i < k then 1 else 0) := by
  intro k
  induction k with
  | zero => intro _; rfl
  | succ k ih =>
    intro hk
    rw [ws_sum_s, ws_sum_s, ih (by omega), ws_cnt_s]
    by_cases z : i = k
    · rw [if_pos (show wr v = nI k by rw [e, z]), if_neg (show ¬ i < k by omega), if_pos (show i < k + 1 by omega)]
      omega
    · rw [if_neg (show ¬ wr v = nI k from fun y => z ((nI_eq hi (by omega)).mp (e.symm.trans y)))]
      by_cases c : i < k
      · rw [if_pos c, if_pos (by omega)]
        omega
      · rw [if_neg c, if_neg (by omega)]
        omega
theorem ws_sum_0 (wr : Nat → Int32) : ∀ k : Nat, ws_sum wr 0 k = 0 := by
  intro k
  induction k with
  | zero => rfl
  | succ k ih => rw [ws_sum_s, ih]; rfl
theorem ws_sum_all {n w : Nat} {m : Int32} {wr wn : Nat → Int32} (h : wq_L n w m wr wn) (hn : n ≤ 6) : ∀ v : Nat, v ≤ w → ws_sum wr v n = v := by
  intro v
  induction v with
  | zero => intro _; exact ws_sum_0 wr n
  | succ v ih =>
    intro hv
    obtain ⟨i, hi, e, _⟩ := h v (by omega)
    rw [ws_sum_step e (by omega) n (by omega), if_pos hi, ih (by omega)]
theorem ws_sum_le {wr : Nat → Int32} {v : Nat} : ∀ k : Nat, ws_sum wr v k ≤ k * v := by
  intro k
  induction k with
  | zero => exact Nat.zero_le _
  | succ k ih =>
    have := ws_cnt_le wr k v
    rw [ws_sum_s, Nat.succ_mul]
    omega
def wq_bits (n : Nat) (x : Int32) (B : Nat → Nat) : Prop := ∃ U : Nat, U < 64 ∧ x = nI U ∧ ∀ i, i < n → B i = U / 2 ^ i % 2
theorem wq_bit6 : ∀ U, U < 64 → ∀ i, i < 6 → (nI U >>> (nI i &&& 31)) &&& 1 = nI (U / 2 ^ i % 2) := by decide +kernel
theorem wq_bits_get {n i : Nat} {x : Int32} {B : Nat → Nat} (h : wq_bits n x B) (hn : n ≤ 6) (hi : i < n) : (x >>> (nI i &&& 31)) &&& 1 = nI (B i) := by
  obtain ⟨U, hU, rfl, hB⟩ := h
  rw [hB i hi]
  exact wq_bit6 U hU i (by omega)
theorem wq_bset6 : ∀ U, U < 64 → ∀ p, p < 6 → (nI U ||| ((1 : Int32) <<< (nI p &&& 31))) = nI (U ||| 2 ^ p) ∧ (U ||| 2 ^ p) < 64 ∧ (nI U &&& (((1 : Int32) <<< (nI p &&& 31)) ^^^ (-1))) = nI (U &&& (63 - 2 ^ p)) ∧ (U &&& (63 - 2 ^ p)) < 64 := by decide +kernel
theorem wq_bval6 : ∀ U, U < 64 → ∀ p, p < 6 → ∀ i, i < 6 → (U ||| 2 ^ p) / 2 ^ i % 2 = (if i = p then 1 else U / 2 ^ i % 2) ∧ (U &&& (63 - 2 ^ p)) / 2 ^ i % 2 = (if i = p then 0 else U / 2 ^ i % 2) := by decide +kernel
theorem wq_bits_1 {n p : Nat} {x : Int32} {B : Nat → Nat} (h : wq_bits n x B) (hn : n ≤ 6) (hp : p < n) : wq_bits n (x ||| ((1 : Int32) <<< (nI p &&& 31))) (wq_ub B p 1) := by
  obtain ⟨U, hU, rfl, hB⟩ := h
  obtain ⟨e1, e2, _, _⟩ := wq_bset6 U hU p (by omega)
  refine ⟨_, e2, e1, fun i hi => ?_⟩
  rw [(wq_bval6 U hU p (by omega) i (by omega)).1]
  unfold wq_ub
  by_cases c : i = p
  · rw [if_pos c, if_pos c]
  · rw [if_neg c, if_neg c]
    exact hB i hi
theorem wq_bits_0 {n p : Nat} {x : Int32} {B : Nat → Nat} (h : wq_bits n x B) (hn : n ≤ 6) (hp : p < n) : wq_bits n (x &&& (((1 : Int32) <<< (nI p &&& 31)) ^^^ (-1))) (wq_ub B p 0) := by
  obtain ⟨U, hU, rfl, hB⟩ := h
  obtain ⟨_, _, e1, e2⟩ := wq_bset6 U hU p (by omega)
  refine ⟨_, e2, e1, fun i hi => ?_⟩
  rw [(wq_bval6 U hU p (by omega) i (by omega)).2]
  unfold wq_ub
  by_cases c : i = p
  · rw [if_pos c, if_pos c]
  · rw [if_neg c, if_neg c]
    exact hB i hi
theorem wq_and3 : ∀ t, t < 4 → (nI t &&& 3) = nI t ∧ ((nI t + 4) &&& 3) = nI t := by decide +kernel
section
variable {n L w ub : Nat} {m : Int32} {B : Nat → Nat} {vV vC hV H ph st it sw ew lb vw co nx lc mc fc rv wr wn rd ra : Nat → Int32} {p : Nat}
variable {post : Int32 → Prop} {N : Nat} {xs : Nat → Int32} {J : Int64 → Int64 → Int64 → Int32 → Int32 → Int32 → Int32 → Int32 → Int32 → Int32 → Int32 → (Nat → Int32) → (Nat → Int32) → (Nat → Int32) → (Nat → Int32) → (Nat → Int32) → (Nat → Int32) → (Nat → Int32) → (Nat → Int32) → (Nat → Int32) → (Nat → Int32) → (Nat → Int32) → (Nat → Int32) → (Nat → Int32) → (Nat → Int32) → (Nat → Int32) → (Nat → Int32) → (Nat → Int32) → Prop} {x4 x13 x14 x15 x16 : Int32} {kc ks : Nat} {h0 h1 h2 : Int64}
theorem wq_908 {J7 : Int32 → Prop} {i v : Nat} (hR : wq_R n L w ub m B vV vC hV ph st it sw ew vw co nx lc mc fc rv wr wn rd ra) (hl : wq_log h0 h1 h2 wr w) (hi : i < n) (ev : vw i = nI v) (hv : v ≤ w) (hK : J7 (nI (i + 1))) :
    ∀ d j : Nat, j + d = n → wL_law_908 post N xs J J7 (nI n) m x4 h0 h1 h2 (nI w) x13 x14 x15 x16 (nI i) (nI v) kc ks (nI n) (nI L) (nI w) (nI ub) vV vC hV H ph st it sw ew lb vw co nx lc mc fc rv (d + 1) (nI (ws_sum wr v j)) (nI j) := by
  intro d
  have hR0 := hR
  obtain ⟨h2n, h6, hL, hub, hact, hV', hH, hLg, hP, hE⟩ := hR
  induction d with
  | zero =>
    intro j hj
    have e : j = n := by omega
    subst e
    refine br_t (nI_le (Nat.le_refl _) (by omega)) (br_t (by rw [ws_sum_all hLg h6 v hv]) ?_)
    exact nm_r (nI_1 i) hK
  | succ d ih =>
    intro j hj
    have hjn : j < n := by omega
    refine br_f (nI_ge hjn (by omega)) (wq_cntw hl (by omega) hv (by omega) (wq_cnt0 hR0 hi hjn ev hv (br_t rfl (wq_val0 hR0 hi hjn ev hv (wq_valw (br_t rfl ?_))))))
    exact nm_r (nI_add _ _) (nm_r (nI_1 j) (ih (j + 1) (by omega)))
theorem wq_794 (hR : wq_R n L w ub m B vV vC hV ph st it sw ew vw co nx lc mc fc rv wr wn rd ra) (hl : wq_log h0 h1 h2 wr w) (hB : wq_bits n x13 B) (hK : J h0 h1 h2 (nI w) x13 x14 (x16 + 1) (nI n) (nI L) (nI w) (nI ub) vV vC hV H ph st it sw ew lb vw co nx lc mc fc rv) :
    ∀ d i : Nat, i + d = n → wL_law_794 post N xs J (nI n) m x4 h0 h1 h2 (nI w) x13 x14 x15 x16 kc ks (nI n) (nI L) (nI w) (nI ub) vV vC hV H ph st it sw ew lb vw co nx lc mc fc rv (d + 1) (nI i) := by
  intro d
  have hR0 := hR
  have hS := wq_S_i (H := H) (lb := lb) hR
  obtain ⟨h2n, h6, hL, hub, hact, hV', hH, hLg, hP, hE⟩ := hR
  induction d with
  | zero =>
    intro i hi
    exact br_t (nI_le (by omega) (by omega)) (nm_e hK)
  | succ d ih =>
    intro i hi
    have hin : i < n := by omega
    have g := ih (i + 1) (by omega)
    obtain ⟨r, t, k, b1, b2, b3, b4, b5, b6, b7, b8, b9, b10, b11⟩ := hE i hin
    have nn : n * (n + 1) ≤ 42 := by rcases ws_n5 h2n h6 with rfl | rfl | rfl | rfl | rfl <;> omega
    have e1 : (nI n * (nI n + 1)) + ((x13 >>> (nI i &&& 31)) &&& 1) = nI (n * (n + 1) + B i) := by
      rw [wq_bits_get hB h6 hin, nI_1, pk_mul, nI_add]
    refine br_f (nI_ge hin (by omega)) (wq_steps hS hin ?_)
    rw [b5, e1]
    refine br_t (nI_le b6 (by omega)) (wq_ver0 hR0 hin ?_)
    have nov : vw i = -6 → (t = 0 → k = 0) → ((0 ≤ vw i → wpX_startedAt (fun r_166 => (((vw i < r_166 → (post 0)) ∧ (¬ vw i < r_166 → (wpX_endedAt (fun r_168 => (((r_168 < vw i → (post 0)) ∧ (¬ r_168 < vw i → (wpX_endedAt (fun r_170 => (((r_170 ≤ nI w → (∃ fu908 : Nat, wL_law_908 post N xs J (wL_law_794 post N xs J (nI n) m x4 h0 h1 h2 (nI w) x13 x14 x15 x16 kc ks (nI n) (nI L) (nI w) (nI ub) vV vC hV H ph st it sw ew lb vw co nx lc mc fc rv (d + 1)) (nI n) m x4 h0 h1 h2 (nI w) x13 x14 x15 x16 (nI i) (vw i) kc ks (nI n) (nI L) (nI w) (nI ub) vV vC hV H ph st it sw ew lb vw co nx lc mc fc rv fu908 0 0)) ∧ (¬ r_170 ≤ nI w → (post 0))))) ((nI n), (nI L), (nI w), (nI ub), vV, vC, hV, H, ph, st, it, sw, ew, lb, vw, co, nx, lc, mc, fc, rv) (nI i)))))) ((nI n), (nI L), (nI w), (nI ub), vV, vC, hV, H, ph, st, it, sw, ew, lb, vw, co, nx, lc, mc, fc, rv) (nI i)))))) ((nI n), (nI L), (nI w), (nI ub), vV, vC, hV, H, ph, st, it, sw, ew, lb, vw, co, nx, lc, mc, fc, rv) (nI i)) ∧
        (¬ 0 ≤ vw i → wpX_phase (fun r_183 => ((((r_183 &&& 3) = 0 → (wpX_steps (fun r_186 => (((r_186 ≤ 0 → (∀ y : Int32, y = nI i + 1 → (wL_law_794 post N xs J (nI n) m x4 h0 h1 h2 (nI w) x13 x14 x15 x16 kc ks (nI n) (nI L) (nI w) (nI ub) vV vC hV H ph st it sw ew lb vw co nx lc mc fc rv (d + 1) y))) ∧ (¬ r_186 ≤ 0 → (post 0))))) ((nI n), (nI L), (nI w), (nI ub), vV, vC, hV, H, ph, st, it, sw, ew, lb, vw, co, nx, lc, mc, fc, rv) (nI i))) ∧ (¬ (r_183 &&& 3) = 0 → (∀ y : Int32, y = nI i + 1 → (wL_law_794 post N xs J (nI n) m x4 h0 h1 h2 (nI w) x13 x14 x15 x16 kc ks (nI n) (nI L) (nI w) (nI ub) vV vC hV H ph st it sw ew lb vw co nx lc mc fc rv (d + 1) y)))))) ((nI n), (nI L), (nI w), (nI ub), vV, vC, hV, H, ph, st, it, sw, ew, lb, vw, co, nx, lc, mc, fc, rv) (nI i))) := by
      intro ev hk0
      rw [ev]
      refine br_f (by decide) ?_
      have fin : ∀ y : Int32, (y &&& 3) = nI t → (((y &&& 3) = 0 → (wpX_steps (fun r_186 => (((r_186 ≤ 0 → (∀ y : Int32, y = nI i + 1 → (wL_law_794 post N xs J (nI n) m x4 h0 h1 h2 (nI w) x13 x14 x15 x16 kc ks (nI n) (nI L) (nI w) (nI ub) vV vC hV H ph st it sw ew lb vw co nx lc mc fc rv (d + 1) y))) ∧ (¬ r_186 ≤ 0 → (post 0))))) ((nI n), (nI L), (nI w), (nI ub), vV, vC, hV, H, ph, st, it, sw, ew, lb, vw, co, nx, lc, mc, fc, rv) (nI i))) ∧ (¬ (y &&& 3) = 0 → (∀ y : Int32, y = nI i + 1 → (wL_law_794 post N xs J (nI n) m x4 h0 h1 h2 (nI w) x13 x14 x15 x16 kc ks (nI n) (nI L) (nI w) (nI ub) vV vC hV H ph st it sw ew lb vw co nx lc mc fc rv (d + 1) y)))) := by
        intro y hy
        rw [hy]
        by_cases t0 : t = 0
        · refine br_t (by rw [t0]; rfl) (wq_steps hS hin ?_)
          rw [b5, hk0 t0]
          exact br_t (by decide) (nm_r (nI_1 i) g)
        · exact br_f (nI_ne0 (by omega) (by omega)) (nm_r (nI_1 i) g)
      refine wq_phase hS hin (fun _ => ?_) (fun _ => ?_)
      · rw [b3]
        exact fin _ (wq_and3 t b4).1
      · rw [b3]
        exact fin _ (wq_and3 t b4).2
    rcases b11 with ⟨z1, z2, z3⟩ | ⟨s0, a1, a2, a3, a4, a5, a6⟩
    · exact nov z3 (fun _ => z2)
    · by_cases t12 : t = 1 ∨ t = 2
      · exact nov (a6 t12) (fun z => by omega)
      · obtain ⟨x, e, c1, c2, c3, c4, c5⟩ := a5 (by omega)
        rw [c4]
        refine br_t (nI_pos' (by omega)) (wq_start h6 hin ?_)
        rw [a2]
        refine br_f (nI_nlt c1 (by omega)) (wq_ended h6 hin ?_)
        rw [c5]
        refine br_f (nI_nlt c2 (by omega)) (wq_ended h6 hin ?_)
        rw [c5]
        refine br_t (nI_le c3 (by omega)) ⟨n + 1, ?_⟩
        exact wq_908 hR0 hl hin c4 (by omega) g n 0 (by omega)
theorem wq_726 (hR : wq_R n L w ub m B vV vC hV ph st it sw ew vw co nx lc mc fc rv wr wn rd ra) (hl : wq_log h0 h1 h2 wr w) (hB : wq_bits n x13 B) (hK : J h0 h1 h2 (nI w) x13 x14 (x16 + 1) (nI n) (nI L) (nI w) (nI ub) vV vC hV H ph st it sw ew lb vw co nx lc mc fc rv) :
    ∀ d j : Nat, j + d = n → wL_law_726 post N xs J (nI n) m x4 h0 h1 h2 (nI w) x13 x14 x15 x16 kc ks (nI n) (nI L) (nI w) (nI ub) vV vC hV H ph st it sw ew lb vw co nx lc mc fc rv (d + 1) (nI j) := by
  intro d
  have hR0 := hR
  obtain ⟨h2n, h6, hL, hub, hact, hV', hH, hLg, hP, hE⟩ := hR
  induction d with
  | zero =>
    intro j hj
    exact br_t (nI_le (by omega) (by omega)) ⟨n + 1, wq_794 (H := H) (lb := lb) hR0 hl hB hK n 0 (by omega)⟩
  | succ d ih =>
    intro j hj
    have hjn : j < n := by omega
    refine br_f (nI_ge hjn (by omega)) (wq_cntw hl (by omega) (Nat.le_refl w) (by omega) (wq_cnt2 hR0 hjn (br_t rfl (wq_val2 hR0 hjn (wq_valw (br_t rfl ?_))))))
    exact nm_r (nI_1 j) (ih (j + 1) (by omega))
end
end
section
/-! one round of the law: what it does, and the checks behind it -/
def wq_I (n L : Nat) (m : Int32) (h0 h1 h2 : Int64) (w : Nat) (x13 : Int32) (u : St2) : Prop := ∃ B H wr ph st, wq_S n L m B H w wr ph st u ∧ wq_log h0 h1 h2 wr w ∧ wq_bits n x13 B
theorem ws_sub_all {wr : Nat → Int32} {d : Nat → Nat} {wF : Nat} : ∀ m i : Nat, ws_sub wr d wF m i wF := by
  intro m
  induction m with
  | zero => intro i; rfl
  | succ m ih => intro i; exact Or.inl (ih (i + 1))
theorem wq_dg_c : ∀ p, p < 6 → ∀ i, i < 8 → wq_dg (nI p * 286331153) i = p := by decide +kernel
theorem wq_or32 {a b : Nat} (ha : a < 2 ^ 32) (hb : b < 2 ^ 32) : nI a ||| nI b = nI (a ||| b) := by
  apply Int32.toBitVec_inj.mp
  apply BitVec.eq_of_toNat_eq
  rw [Int32.toBitVec_or, BitVec.toNat_or, pk_tn ha, pk_tn hb, pk_tn (Nat.or_lt_two_pow ha hb)]
theorem wq_s4 : ∀ i, i < 8 → (((4 * nI i) &&& 31 : Int32).toBitVec.smod 32).toNat = 4 * i := by decide +kernel
theorem wq_16 (k : Nat) : 2 ^ (4 * k) = 16 ^ k := by rw [Nat.pow_mul]
theorem wq_16le (k : Nat) (hk : k ≤ 8) : 16 ^ k ≤ 2 ^ 32 := by
  rw [← wq_16]
  exact Nat.pow_le_pow_right (by decide) (by omega)
theorem wq_put16 {G i d : Nat} (hG : G < 16 ^ i) (hi : i < 8) (hd : d < 16) : nI G ||| (nI d <<< ((4 * nI i) &&& 31)) = nI (G + d * 16 ^ i) ∧ G + d * 16 ^ i < 16 ^ (i + 1) := by
  have h8 := wq_16le (i + 1) (by omega)
  rw [Nat.pow_succ] at h8
  have hD : d * 16 ^ i ≤ 15 * 16 ^ i := Nat.mul_le_mul_right _ (by omega)
  refine ⟨?_, by rw [Nat.pow_succ]; omega⟩
  rw [pk_shlN ((4 * nI i) &&& 31) (4 * i) (wq_s4 i hi) (by rw [wq_16]; omega), wq_16, wq_or32 (by omega) (by omega)]
  congr 1
  rw [Nat.or_comm, ← wq_16, ← Nat.shiftLeft_eq, ← Nat.shiftLeft_add_eq_or_of_lt (by rw [wq_16]; exact hG), Nat.add_comm]
theorem wq_d16_lo {G d k i : Nat} (hi : i < k) : (G + d * 16 ^ k) / 16 ^ i % 16 = G / 16 ^ i % 16 := by
  have e : d * 16 ^ k = (d * 16 ^ (k - i - 1) * 16) * 16 ^ i := by
    rw [Nat.mul_assoc, Nat.mul_assoc, ← Nat.pow_succ', ← Nat.pow_add]
    congr 2
    omega
  rw [e, Nat.add_mul_div_right _ _ (Nat.pow_pos (by decide)), Nat.add_mul_mod_self_right]
theorem wq_d16_at {G d k : Nat} (hG : G < 16 ^ k) (hd : d < 16) : (G + d * 16 ^ k) / 16 ^ k % 16 = d := by
  rw [Nat.add_mul_div_right _ _ (Nat.pow_pos (by decide)), Nat.div_eq_of_lt hG, Nat.zero_add, Nat.mod_eq_of_lt hd]
section
variable {post : Int32 → Prop} {N : Nat} {xs : Nat → Int32} {J : Int64 → Int64 → Int64 → Int32 → Int32 → Int32 → Int32 → Int32 → Int32 → Int32 → Int32 → (Nat → Int32) → (Nat → Int32) → (Nat → Int32) → (Nat → Int32) → (Nat → Int32) → (Nat → Int32) → (Nat → Int32) → (Nat → Int32) → (Nat → Int32) → (Nat → Int32) → (Nat → Int32) → (Nat → Int32) → (Nat → Int32) → (Nat → Int32) → (Nat → Int32) → (Nat → Int32) → (Nat → Int32) → Prop} {x4 x15 x16 : Int32} {kc ks : Nat}
variable {n L : Nat} {m : Int32} {B : Nat → Nat} {H : Nat → Int32} {w : Nat} {wr ph st : Nat → Int32} {u : St2} {p : Nat} {h0 h1 h2 : Int64} {x13 x14 : Int32}
theorem wq_after {w0 : Nat} {x : Int32} (hJ : ∀ (h0 h1 h2 : Int64) (w : Nat) (x13 x14 : Int32) (u : St2), wq_I n L m h0 h1 h2 w x13 u → J h0 h1 h2 (nI w) x13 x14 (x16 + 1) u.1 u.2.1 u.2.2.1 u.2.2.2.1 u.2.2.2.2.1 u.2.2.2.2.2.1 u.2.2.2.2.2.2.1 u.2.2.2.2.2.2.2.1 u.2.2.2.2.2.2.2.2.1 u.2.2.2.2.2.2.2.2.2.1 u.2.2.2.2.2.2.2.2.2.2.1 u.2.2.2.2.2.2.2.2.2.2.2.1 u.2.2.2.2.2.2.2.2.2.2.2.2.1 u.2.2.2.2.2.2.2.2.2.2.2.2.2.1 u.2.2.2.2.2.2.2.2.2.2.2.2.2.2.1 u.2.2.2.2.2.2.2.2.2.2.2.2.2.2.2.1 u.2.2.2.2.2.2.2.2.2.2.2.2.2.2.2.2.1 u.2.2.2.2.2.2.2.2.2.2.2.2.2.2.2.2.2.1 u.2.2.2.2.2.2.2.2.2.2.2.2.2.2.2.2.2.2.1 u.2.2.2.2.2.2.2.2.2.2.2.2.2.2.2.2.2.2.2.1 u.2.2.2.2.2.2.2.2.2.2.2.2.2.2.2.2.2.2.2.2)
    (hS : wq_S n L m B H w wr ph st u) (hl : wq_log h0 h1 h2 wr w0) (hsub : ws_sub wr (wq_dg x) w 8 0 w0) (hC : ∀ a b c, a < b → b < c → c < 8 → wq_dg x a = wq_dg x c → wq_dg x b = wq_dg x a)
    (hc : ∀ j, j < n → ws_cnt wr j w ≤ ws_cnt wr j w0 + 1) (hB : wq_bits n x13 B) :
    ∃ fu : Nat, wL_law_578 post N xs J (nI n) m x4 x13 x14 x15 x16 x kc ks u.1 u.2.1 u.2.2.1 u.2.2.2.1 u.2.2.2.2.1 u.2.2.2.2.2.1 u.2.2.2.2.2.2.1 u.2.2.2.2.2.2.2.1 u.2.2.2.2.2.2.2.2.1 u.2.2.2.2.2.2.2.2.2.1 u.2.2.2.2.2.2.2.2.2.2.1 u.2.2.2.2.2.2.2.2.2.2.2.1 u.2.2.2.2.2.2.2.2.2.2.2.2.1 u.2.2.2.2.2.2.2.2.2.2.2.2.2.1 u.2.2.2.2.2.2.2.2.2.2.2.2.2.2.1 u.2.2.2.2.2.2.2.2.2.2.2.2.2.2.2.1 u.2.2.2.2.2.2.2.2.2.2.2.2.2.2.2.2.1 u.2.2.2.2.2.2.2.2.2.2.2.2.2.2.2.2.2.1 u.2.2.2.2.2.2.2.2.2.2.2.2.2.2.2.2.2.2.1 u.2.2.2.2.2.2.2.2.2.2.2.2.2.2.2.2.2.2.2.1 u.2.2.2.2.2.2.2.2.2.2.2.2.2.2.2.2.2.2.2.2 fu h0 h1 h2 (nI w0) (-1) 0 := by
  have hS0 := hS
  obtain ⟨ub, vV, vC, hV, it, sw, ew, lb, vw, co, nx, lc, mc, fc, rv, wn, rd, ra, rfl, hR⟩ := hS
  refine ⟨9, wq_det hR hC hc (fun a b c hl' => ⟨n + 1, wq_726 (H := H) (lb := lb) hR hl' hB ?_ n 0 (by omega)⟩) 8 0 w0 h0 h1 h2 rfl (Nat.le_refl w0) hl ⟨hsub, fun a ea => by omega⟩⟩
  exact hJ a b c w x13 x14 _ ⟨B, H, wr, ph, st, hS0, hl', hB⟩
theorem wq_after1 {w' : Nat} {wr' : Nat → Int32} (hJ : ∀ (h0 h1 h2 : Int64) (w : Nat) (x13 x14 : Int32) (u : St2), wq_I n L m h0 h1 h2 w x13 u → J h0 h1 h2 (nI w) x13 x14 (x16 + 1) u.1 u.2.1 u.2.2.1 u.2.2.2.1 u.2.2.2.2.1 u.2.2.2.2.2.1 u.2.2.2.2.2.2.1 u.2.2.2.2.2.2.2.1 u.2.2.2.2.2.2.2.2.1 u.2.2.2.2.2.2.2.2.2.1 u.2.2.2.2.2.2.2.2.2.2.1 u.2.2.2.2.2.2.2.2.2.2.2.1 u.2.2.2.2.2.2.2.2.2.2.2.2.1 u.2.2.2.2.2.2.2.2.2.2.2.2.2.1 u.2.2.2.2.2.2.2.2.2.2.2.2.2.2.1 u.2.2.2.2.2.2.2.2.2.2.2.2.2.2.2.1 u.2.2.2.2.2.2.2.2.2.2.2.2.2.2.2.2.1 u.2.2.2.2.2.2.2.2.2.2.2.2.2.2.2.2.2.1 u.2.2.2.2.2.2.2.2.2.2.2.2.2.2.2.2.2.2.1 u.2.2.2.2.2.2.2.2.2.2.2.2.2.2.2.2.2.2.2.1 u.2.2.2.2.2.2.2.2.2.2.2.2.2.2.2.2.2.2.2.2)
    (hp : p < 6) (hS : wq_S n L m B H w' wr' ph st u) (hl : wq_log h0 h1 h2 wr w) (hw : (w' = w ∧ wr' = wr) ∨ (w' = w + 1 ∧ wr' = upd wr w (nI p))) (hB : wq_bits n x13 B) :
    ∃ fu : Nat, wL_law_578 post N xs J (nI n) m x4 x13 x14 x15 x16 (nI p * 286331153) kc ks u.1 u.2.1 u.2.2.1 u.2.2.2.1 u.2.2.2.2.1 u.2.2.2.2.2.1 u.2.2.2.2.2.2.1 u.2.2.2.2.2.2.2.1 u.2.2.2.2.2.2.2.2.1 u.2.2.2.2.2.2.2.2.2.1 u.2.2.2.2.2.2.2.2.2.2.1 u.2.2.2.2.2.2.2.2.2.2.2.1 u.2.2.2.2.2.2.2.2.2.2.2.2.1 u.2.2.2.2.2.2.2.2.2.2.2.2.2.1 u.2.2.2.2.2.2.2.2.2.2.2.2.2.2.1 u.2.2.2.2.2.2.2.2.2.2.2.2.2.2.2.1 u.2.2.2.2.2.2.2.2.2.2.2.2.2.2.2.2.1 u.2.2.2.2.2.2.2.2.2.2.2.2.2.2.2.2.2.1 u.2.2.2.2.2.2.2.2.2.2.2.2.2.2.2.2.2.2.1 u.2.2.2.2.2.2.2.2.2.2.2.2.2.2.2.2.2.2.2.1 u.2.2.2.2.2.2.2.2.2.2.2.2.2.2.2.2.2.2.2.2 fu h0 h1 h2 (nI w) (-1) 0 := by
  have hdg := wq_dg_c p hp
  refine wq_after hJ hS (wq_log_ext hl ?_) ?_ ?_ ?_ hB
  · intro t ht
    rcases hw with ⟨_, rfl⟩ | ⟨_, rfl⟩
    · rfl
    · exact pk_un (by omega)
  · rcases hw with ⟨rfl, rfl⟩ | ⟨rfl, rfl⟩
    · exact ws_sub_all 8 0
    · exact Or.inr ⟨by omega, by rw [pk_us, hdg 0 (by omega)], ws_sub_all 7 1⟩
  · intro a b c ab bc c8 _
    rw [hdg b (by omega), hdg a (by omega)]
  · intro j _
    rcases hw with ⟨rfl, rfl⟩ | ⟨rfl, rfl⟩
    · omega
    · rw [ws_cnt_s]
      split <;> omega
theorem wq_566 {Z k : Nat} (hJ : ∀ (h0 h1 h2 : Int64) (w : Nat) (x13 x14 : Int32) (u : St2), wq_I n L m h0 h1 h2 w x13 u → J h0 h1 h2 (nI w) x13 x14 (x16 + 1) u.1 u.2.1 u.2.2.1 u.2.2.2.1 u.2.2.2.2.1 u.2.2.2.2.2.1 u.2.2.2.2.2.2.1 u.2.2.2.2.2.2.2.1 u.2.2.2.2.2.2.2.2.1 u.2.2.2.2.2.2.2.2.2.1 u.2.2.2.2.2.2.2.2.2.2.1 u.2.2.2.2.2.2.2.2.2.2.2.1 u.2.2.2.2.2.2.2.2.2.2.2.2.1 u.2.2.2.2.2.2.2.2.2.2.2.2.2.1 u.2.2.2.2.2.2.2.2.2.2.2.2.2.2.1 u.2.2.2.2.2.2.2.2.2.2.2.2.2.2.2.1 u.2.2.2.2.2.2.2.2.2.2.2.2.2.2.2.2.1 u.2.2.2.2.2.2.2.2.2.2.2.2.2.2.2.2.2.1 u.2.2.2.2.2.2.2.2.2.2.2.2.2.2.2.2.2.2.1 u.2.2.2.2.2.2.2.2.2.2.2.2.2.2.2.2.2.2.2.1 u.2.2.2.2.2.2.2.2.2.2.2.2.2.2.2.2.2.2.2.2)
    (hn : n ≤ 6) (hp : p < n) (hS : wq_S n L m B H w wr ph st u) (hl : wq_log h0 h1 h2 wr w) (hB : wq_bits n x13 B) (hZ : 0 < Z) (hZ2 : Z ≤ 7) (hk : k < 2 ^ 31) :
    wL_law_566 post N xs J (nI n) m x4 h0 h1 h2 (nI w) x13 x14 x15 x16 (nI p * 286331153) (nI Z) (nI k) 1 (nI p) kc ks u.1 u.2.1 u.2.2.1 u.2.2.2.1 u.2.2.2.2.1 u.2.2.2.2.2.1 u.2.2.2.2.2.2.1 u.2.2.2.2.2.2.2.1 u.2.2.2.2.2.2.2.2.1 u.2.2.2.2.2.2.2.2.2.1 u.2.2.2.2.2.2.2.2.2.2.1 u.2.2.2.2.2.2.2.2.2.2.2.1 u.2.2.2.2.2.2.2.2.2.2.2.2.1 u.2.2.2.2.2.2.2.2.2.2.2.2.2.1 u.2.2.2.2.2.2.2.2.2.2.2.2.2.2.1 u.2.2.2.2.2.2.2.2.2.2.2.2.2.2.2.1 u.2.2.2.2.2.2.2.2.2.2.2.2.2.2.2.2.1 u.2.2.2.2.2.2.2.2.2.2.2.2.2.2.2.2.2.1 u.2.2.2.2.2.2.2.2.2.2.2.2.2.2.2.2.2.2.1 u.2.2.2.2.2.2.2.2.2.2.2.2.2.2.2.2.2.2.2.1 u.2.2.2.2.2.2.2.2.2.2.2.2.2.2.2.2.2.2.2.2 := by
  have hm := Nat.mod_lt k hZ
  obtain ⟨r, w', wr', ph', st', u', hS', hw, _, g⟩ := wq_run (kk := 1 + k % Z) hS hn hp (by omega) (by omega)
  refine ⟨nI_ne0 hZ (by omega), ?_⟩
  rw [pk_rem hk hZ (by omega), show (1 : Int32) = nI 1 from rfl, nI_add]
  have fin := wq_after1 (post := post) (N := N) (xs := xs) (x4 := x4) (x14 := x14) (x15 := x15) (kc := kc) (ks := ks) hJ (show p < 6 by omega) hS' hl hw hB
  obtain ⟨ub, vV, vC, hV, it, sw, ew, lb, vw, co, nx, lc, mc, fc, rv, wn, rd, ra, rfl, hR⟩ := hS
  obtain ⟨ub1, vV1, vC1, hV1, it1, sw1, ew1, lb1, vw1, co1, nx1, lc1, mc1, fc1, rv1, wn1, rd1, ra1, rfl, hR1⟩ := hS'
  exact g _ fin
theorem wq_545 {k : Nat} (hJ : ∀ (h0 h1 h2 : Int64) (w : Nat) (x13 x14 : Int32) (u : St2), wq_I n L m h0 h1 h2 w x13 u → J h0 h1 h2 (nI w) x13 x14 (x16 + 1) u.1 u.2.1 u.2.2.1 u.2.2.2.1 u.2.2.2.2.1 u.2.2.2.2.2.1 u.2.2.2.2.2.2.1 u.2.2.2.2.2.2.2.1 u.2.2.2.2.2.2.2.2.1 u.2.2.2.2.2.2.2.2.2.1 u.2.2.2.2.2.2.2.2.2.2.1 u.2.2.2.2.2.2.2.2.2.2.2.1 u.2.2.2.2.2.2.2.2.2.2.2.2.1 u.2.2.2.2.2.2.2.2.2.2.2.2.2.1 u.2.2.2.2.2.2.2.2.2.2.2.2.2.2.1 u.2.2.2.2.2.2.2.2.2.2.2.2.2.2.2.1 u.2.2.2.2.2.2.2.2.2.2.2.2.2.2.2.2.1 u.2.2.2.2.2.2.2.2.2.2.2.2.2.2.2.2.2.1 u.2.2.2.2.2.2.2.2.2.2.2.2.2.2.2.2.2.2.1 u.2.2.2.2.2.2.2.2.2.2.2.2.2.2.2.2.2.2.2.1 u.2.2.2.2.2.2.2.2.2.2.2.2.2.2.2.2.2.2.2.2)
    (hn : n ≤ 6) (hp : p < n) (hS : wq_S n L m B H w wr ph st u) (hl : wq_log h0 h1 h2 wr w) (hB : wq_bits n x13 B) (hk : k < 2 ^ 31) :
    wL_law_545 post N xs J (nI n) m x4 h0 h1 h2 (nI w) x13 x14 x15 x16 (nI p) (nI k) (nI p * 286331153) kc ks u.1 u.2.1 u.2.2.1 u.2.2.2.1 u.2.2.2.2.1 u.2.2.2.2.2.1 u.2.2.2.2.2.2.1 u.2.2.2.2.2.2.2.1 u.2.2.2.2.2.2.2.2.1 u.2.2.2.2.2.2.2.2.2.1 u.2.2.2.2.2.2.2.2.2.2.1 u.2.2.2.2.2.2.2.2.2.2.2.1 u.2.2.2.2.2.2.2.2.2.2.2.2.1 u.2.2.2.2.2.2.2.2.2.2.2.2.2.1 u.2.2.2.2.2.2.2.2.2.2.2.2.2.2.1 u.2.2.2.2.2.2.2.2.2.2.2.2.2.2.2.1 u.2.2.2.2.2.2.2.2.2.2.2.2.2.2.2.2.1 u.2.2.2.2.2.2.2.2.2.2.2.2.2.2.2.2.2.1 u.2.2.2.2.2.2.2.2.2.2.2.2.2.2.2.2.2.2.1 u.2.2.2.2.2.2.2.2.2.2.2.2.2.2.2.2.2.2.2.1 u.2.2.2.2.2.2.2.2.2.2.2.2.2.2.2.2.2.2.2.2 := by
  by_cases c : x4 ≤ nI p
  · refine br_t c ?_
    rw [nI_1]
    exact wq_566 hJ hn hp hS hl hB (by omega) (by omega) hk
  · exact br_f c (wq_566 (Z := 3) hJ hn hp hS hl hB (by omega) (by omega) hk)
theorem wq_499 (hJ : ∀ (h0 h1 h2 : Int64) (w : Nat) (x13 x14 : Int32) (u : St2), wq_I n L m h0 h1 h2 w x13 u → J h0 h1 h2 (nI w) x13 x14 (x16 + 1) u.1 u.2.1 u.2.2.1 u.2.2.2.1 u.2.2.2.2.1 u.2.2.2.2.2.1 u.2.2.2.2.2.2.1 u.2.2.2.2.2.2.2.1 u.2.2.2.2.2.2.2.2.1 u.2.2.2.2.2.2.2.2.2.1 u.2.2.2.2.2.2.2.2.2.2.1 u.2.2.2.2.2.2.2.2.2.2.2.1 u.2.2.2.2.2.2.2.2.2.2.2.2.1 u.2.2.2.2.2.2.2.2.2.2.2.2.2.1 u.2.2.2.2.2.2.2.2.2.2.2.2.2.2.1 u.2.2.2.2.2.2.2.2.2.2.2.2.2.2.2.1 u.2.2.2.2.2.2.2.2.2.2.2.2.2.2.2.2.1 u.2.2.2.2.2.2.2.2.2.2.2.2.2.2.2.2.2.1 u.2.2.2.2.2.2.2.2.2.2.2.2.2.2.2.2.2.2.1 u.2.2.2.2.2.2.2.2.2.2.2.2.2.2.2.2.2.2.2.1 u.2.2.2.2.2.2.2.2.2.2.2.2.2.2.2.2.2.2.2.2)
    (hn : n ≤ 6) (hp : p < n) (hS : wq_S n L m B H w wr ph st u) (hl : wq_log h0 h1 h2 wr w) (hB : wq_bits n x13 B) :
    wL_law_499 post N xs J (nI n) m x4 h0 h1 h2 (nI w) x13 x14 x15 x16 (nI p) (nI p * 286331153) kc ks u.1 u.2.1 u.2.2.1 u.2.2.2.1 u.2.2.2.2.1 u.2.2.2.2.2.1 u.2.2.2.2.2.2.1 u.2.2.2.2.2.2.2.1 u.2.2.2.2.2.2.2.2.1 u.2.2.2.2.2.2.2.2.2.1 u.2.2.2.2.2.2.2.2.2.2.1 u.2.2.2.2.2.2.2.2.2.2.2.1 u.2.2.2.2.2.2.2.2.2.2.2.2.1 u.2.2.2.2.2.2.2.2.2.2.2.2.2.1 u.2.2.2.2.2.2.2.2.2.2.2.2.2.2.1 u.2.2.2.2.2.2.2.2.2.2.2.2.2.2.2.1 u.2.2.2.2.2.2.2.2.2.2.2.2.2.2.2.2.1 u.2.2.2.2.2.2.2.2.2.2.2.2.2.2.2.2.2.1 u.2.2.2.2.2.2.2.2.2.2.2.2.2.2.2.2.2.2.1 u.2.2.2.2.2.2.2.2.2.2.2.2.2.2.2.2.2.2.2.1 u.2.2.2.2.2.2.2.2.2.2.2.2.2.2.2.2.2.2.2.2 := by
  obtain ⟨r, w', wr', ph', st', u', hS', hw, h64, g⟩ := wq_run (kk := 64) hS hn hp (by omega) (by omega)
  obtain ⟨t, ht, et⟩ := wq_ph4 hS hp
  have fin := wq_after1 (post := post) (N := N) (xs := xs) (x4 := x4) (x14 := x14) (x15 := x15) (kc := kc) (ks := ks) hJ (show p < 6 by omega) hS' hl hw hB
  have hS0 := hS
  have hS1 := hS'
  obtain ⟨ub, vV, vC, hV, it, sw, ew, lb, vw, co, nx, lc, mc, fc, rv, wn, rd, ra, rfl, hR⟩ := hS
  obtain ⟨ub1, vV1, vC1, hV1, it1, sw1, ew1, lb1, vw1, co1, nx1, lc1, mc1, fc1, rv1, wn1, rd1, ra1, rfl, hR1⟩ := hS'
  unfold wL_law_499
  refine wq_phase hS0 hp (fun eh => g _ ?_) (fun eh => g _ ?_)
  · rw [et]
    by_cases c1 : t < 1
    · exact br_t (nI_lt (b := 1) c1 (by decide)) fin
    · refine br_f (nI_nlt (b := 1) (by omega) (by omega)) (br_f (nI_nlt (a := 3) (by omega) (by decide)) ?_)
      have e0 := h64 eh (by rw [et]; exact nI_ne0 (by omega) (by omega)) rfl
      exact wq_phase hS1 hp (fun _ => by rw [e0]; exact br_t rfl fin) (fun z => absurd eh z)
  · rw [et, show (4 : Int32) = nI 4 from rfl, nI_add]
    exact br_f (nI_nlt (b := 1) (by omega) (by omega)) (br_t (nI_lt (a := 3) (by omega) (by omega)) fin)
theorem wq_475 {x17 : Int32} {a k : Nat} (hJ : ∀ (h0 h1 h2 : Int64) (w : Nat) (x13 x14 : Int32) (u : St2), wq_I n L m h0 h1 h2 w x13 u → J h0 h1 h2 (nI w) x13 x14 (x16 + 1) u.1 u.2.1 u.2.2.1 u.2.2.2.1 u.2.2.2.2.1 u.2.2.2.2.2.1 u.2.2.2.2.2.2.1 u.2.2.2.2.2.2.2.1 u.2.2.2.2.2.2.2.2.1 u.2.2.2.2.2.2.2.2.2.1 u.2.2.2.2.2.2.2.2.2.2.1 u.2.2.2.2.2.2.2.2.2.2.2.1 u.2.2.2.2.2.2.2.2.2.2.2.2.1 u.2.2.2.2.2.2.2.2.2.2.2.2.2.1 u.2.2.2.2.2.2.2.2.2.2.2.2.2.2.1 u.2.2.2.2.2.2.2.2.2.2.2.2.2.2.2.1 u.2.2.2.2.2.2.2.2.2.2.2.2.2.2.2.2.1 u.2.2.2.2.2.2.2.2.2.2.2.2.2.2.2.2.2.1 u.2.2.2.2.2.2.2.2.2.2.2.2.2.2.2.2.2.2.1 u.2.2.2.2.2.2.2.2.2.2.2.2.2.2.2.2.2.2.2.1 u.2.2.2.2.2.2.2.2.2.2.2.2.2.2.2.2.2.2.2.2)
    (hn : n ≤ 6) (hp : p < n) (hS : wq_S n L m B H w wr ph st u) (hl : wq_log h0 h1 h2 wr w) (hB : wq_bits n x13 B) (hk : k < 2 ^ 31) :
    wL_law_475 post N xs J (nI n) m x4 h0 h1 h2 (nI w) x13 x14 x15 x16 x17 (nI p) (nI a) (nI k) (nI p * 286331153) kc ks u.1 u.2.1 u.2.2.1 u.2.2.2.1 u.2.2.2.2.1 u.2.2.2.2.2.1 u.2.2.2.2.2.2.1 u.2.2.2.2.2.2.2.1 u.2.2.2.2.2.2.2.2.1 u.2.2.2.2.2.2.2.2.2.1 u.2.2.2.2.2.2.2.2.2.2.1 u.2.2.2.2.2.2.2.2.2.2.2.1 u.2.2.2.2.2.2.2.2.2.2.2.2.1 u.2.2.2.2.2.2.2.2.2.2.2.2.2.1 u.2.2.2.2.2.2.2.2.2.2.2.2.2.2.1 u.2.2.2.2.2.2.2.2.2.2.2.2.2.2.2.1 u.2.2.2.2.2.2.2.2.2.2.2.2.2.2.2.2.1 u.2.2.2.2.2.2.2.2.2.2.2.2.2.2.2.2.2.1 u.2.2.2.2.2.2.2.2.2.2.2.2.2.2.2.2.2.2.1 u.2.2.2.2.2.2.2.2.2.2.2.2.2.2.2.2.2.2.2.1 u.2.2.2.2.2.2.2.2.2.2.2.2.2.2.2.2.2.2.2.2 := by
  have k5 := wq_545 (post := post) (N := N) (xs := xs) (x4 := x4) (x14 := x14) (x15 := x15) (kc := kc) (ks := ks) hJ hn hp hS hl hB hk
  have k4 := wq_499 (post := post) (N := N) (xs := xs) (x4 := x4) (x14 := x14) (x15 := x15) (kc := kc) (ks := ks) hJ hn hp hS hl hB
  have k8 : wL_law_487 post N xs J (nI n) m x4 h0 h1 h2 (nI w) x13 x14 x15 x16 x17 (nI p) (nI k) (nI p * 286331153) kc ks u.1 u.2.1 u.2.2.1 u.2.2.2.1 u.2.2.2.2.1 u.2.2.2.2.2.1 u.2.2.2.2.2.2.1 u.2.2.2.2.2.2.2.1 u.2.2.2.2.2.2.2.2.1 u.2.2.2.2.2.2.2.2.2.1 u.2.2.2.2.2.2.2.2.2.2.1 u.2.2.2.2.2.2.2.2.2.2.2.1 u.2.2.2.2.2.2.2.2.2.2.2.2.1 u.2.2.2.2.2.2.2.2.2.2.2.2.2.1 u.2.2.2.2.2.2.2.2.2.2.2.2.2.2.1 u.2.2.2.2.2.2.2.2.2.2.2.2.2.2.2.1 u.2.2.2.2.2.2.2.2.2.2.2.2.2.2.2.2.1 u.2.2.2.2.2.2.2.2.2.2.2.2.2.2.2.2.2.1 u.2.2.2.2.2.2.2.2.2.2.2.2.2.2.2.2.2.2.1 u.2.2.2.2.2.2.2.2.2.2.2.2.2.2.2.2.2.2.2.1 u.2.2.2.2.2.2.2.2.2.2.2.2.2.2.2.2.2.2.2.2 :=
    br_c (fun _ => br_c (fun _ => k5) (fun _ => k4)) (fun _ => k4)
  exact br_c (fun _ => k8) (fun _ => br_c (fun _ => k8) (fun _ => k5))
theorem wq_364 {x20 x21 x22 x24 x25 : Int32} {f : Nat → Nat} (hJ : ∀ (h0 h1 h2 : Int64) (w : Nat) (x13 x14 : Int32) (u : St2), wq_I n L m h0 h1 h2 w x13 u → J h0 h1 h2 (nI w) x13 x14 (x16 + 1) u.1 u.2.1 u.2.2.1 u.2.2.2.1 u.2.2.2.2.1 u.2.2.2.2.2.1 u.2.2.2.2.2.2.1 u.2.2.2.2.2.2.2.1 u.2.2.2.2.2.2.2.2.1 u.2.2.2.2.2.2.2.2.2.1 u.2.2.2.2.2.2.2.2.2.2.1 u.2.2.2.2.2.2.2.2.2.2.2.1 u.2.2.2.2.2.2.2.2.2.2.2.2.1 u.2.2.2.2.2.2.2.2.2.2.2.2.2.1 u.2.2.2.2.2.2.2.2.2.2.2.2.2.2.1 u.2.2.2.2.2.2.2.2.2.2.2.2.2.2.2.1 u.2.2.2.2.2.2.2.2.2.2.2.2.2.2.2.2.1 u.2.2.2.2.2.2.2.2.2.2.2.2.2.2.2.2.2.1 u.2.2.2.2.2.2.2.2.2.2.2.2.2.2.2.2.2.2.1 u.2.2.2.2.2.2.2.2.2.2.2.2.2.2.2.2.2.2.2.1 u.2.2.2.2.2.2.2.2.2.2.2.2.2.2.2.2.2.2.2.2)
    (hn : n ≤ 6) (hS : wq_S n L m B H w wr ph st u) (hl : wq_log h0 h1 h2 wr w) (hB : wq_bits n x13 B)
    (hf : ∀ i, i < 8 → f i < 16 ∧ (x20 = 5 → (x22 + (nI i * x25)) &&& 7 = nI (f i)) ∧ (¬ x20 = 5 → x24 ≤ nI i → x21 = nI (f i)) ∧ (¬ x20 = 5 → ¬ x24 ≤ nI i → nI p = nI (f i)))
    (hC : ∀ a b c, a < b → b < c → c < 8 → f a = f c → f b = f a) :
    ∀ d i G : Nat, i + d = 8 → G < 16 ^ i → (∀ j, j < i → G / 16 ^ j % 16 = f j) →
    wL_law_364 post N xs J (nI n) m x4 h0 h1 h2 (nI w) x13 x14 x15 x16 (nI p) x20 x21 x22 x24 x25 kc ks u.1 u.2.1 u.2.2.1 u.2.2.2.1 u.2.2.2.2.1 u.2.2.2.2.2.1 u.2.2.2.2.2.2.1 u.2.2.2.2.2.2.2.1 u.2.2.2.2.2.2.2.2.1 u.2.2.2.2.2.2.2.2.2.1 u.2.2.2.2.2.2.2.2.2.2.1 u.2.2.2.2.2.2.2.2.2.2.2.1 u.2.2.2.2.2.2.2.2.2.2.2.2.1 u.2.2.2.2.2.2.2.2.2.2.2.2.2.1 u.2.2.2.2.2.2.2.2.2.2.2.2.2.2.1 u.2.2.2.2.2.2.2.2.2.2.2.2.2.2.2.1 u.2.2.2.2.2.2.2.2.2.2.2.2.2.2.2.2.1 u.2.2.2.2.2.2.2.2.2.2.2.2.2.2.2.2.2.1 u.2.2.2.2.2.2.2.2.2.2.2.2.2.2.2.2.2.2.1 u.2.2.2.2.2.2.2.2.2.2.2.2.2.2.2.2.2.2.2.1 u.2.2.2.2.2.2.2.2.2.2.2.2.2.2.2.2.2.2.2.2 (d + 1) (nI G) (nI i) := by
  intro d
  induction d with
  | zero =>
    intro i G hi hG hd
    have ei : i = 8 := by omega
    subst ei
    have edg : ∀ j, j < 8 → wq_dg (nI G) j = f j := fun j hj => by
      unfold wq_dg
      rw [pk_tn (Nat.lt_of_lt_of_le hG (wq_16le 8 (by omega)))]
      exact hd j hj
    obtain ⟨r, w', wr', ph', st', u', hS', hsub, hle, hpre, hcn, g⟩ := wq_sch (nI G) hn hS
    have fin := wq_after (post := post) (N := N) (xs := xs) (x4 := x4) (x14 := x14) (x15 := x15) (kc := kc) (ks := ks) hJ hS' (wq_log_ext hl hpre) hsub (fun a b c ab bc c8 e => by
      rw [edg a (by omega), edg c (by omega)] at e
      rw [edg b (by omega), edg a (by omega)]
      exact hC a b c ab bc c8 e) hcn hB
    obtain ⟨ub, vV, vC, hV, it, sw, ew, lb, vw, co, nx, lc, mc, fc, rv, wn, rd, ra, rfl, hR⟩ := hS
    obtain ⟨ub1, vV1, vC1, hV1, it1, sw1, ew1, lb1, vw1, co1, nx1, lc1, mc1, fc1, rv1, wn1, rd1, ra1, rfl, hR1⟩ := hS'
    exact br_t (nI_le (a := 8) (b := 8) (by omega) (by omega)) (g _ fin)
  | succ d ih =>
    intro i G hi hG hd
    obtain ⟨f1, f2, f3, f4⟩ := hf i (by omega)
    obtain ⟨e1, e2⟩ := wq_put16 (G := G) (i := i) (d := f i) hG (by omega) f1
    have k := ih (i + 1) (G + f i * 16 ^ i) (by omega) e2 (fun j hj => by
      by_cases c : j = i
      · rw [c]
        exact wq_d16_at hG f1
      · rw [wq_d16_lo (by omega)]
        exact hd j (by omega))
    refine br_f (nI_ge (b := 8) (by omega) (by omega)) ?_
    by_cases c5 : x20 = 5
    · refine br_t c5 ?_
      rw [f2 c5]
      exact nm_r e1 (nm_r (nI_1 i) k)
    · refine br_f c5 ?_
      by_cases c : x24 ≤ nI i
      · refine br_t c ?_
        rw [f3 c5 c] at k ⊢
        exact nm_r e1 (nm_r (nI_1 i) k)
      · refine br_f c ?_
        have e := f4 c5 c
        exact nm_r (by rw [e]; exact e1) (nm_r (nI_1 i) k)
end
end
section
/-! the rounds, the start and the law -/
theorem wq_q {n p E : Nat} (h2 : 2 ≤ n) (h6 : n ≤ 6) (hp : p < n) : (p + 1 + E % (n - 1)) % n < n ∧ (p + 1 + E % (n - 1)) % n ≠ p := by
  rcases ws_n5 h2 h6 with rfl | rfl | rfl | rfl | rfl <;> omega
section
variable {post : Int32 → Prop} {N : Nat} {xs : Nat → Int32} {J : Int64 → Int64 → Int64 → Int32 → Int32 → Int32 → Int32 → Int32 → Int32 → Int32 → Int32 → (Nat → Int32) → (Nat → Int32) → (Nat → Int32) → (Nat → Int32) → (Nat → Int32) → (Nat → Int32) → (Nat → Int32) → (Nat → Int32) → (Nat → Int32) → (Nat → Int32) → (Nat → Int32) → (Nat → Int32) → (Nat → Int32) → (Nat → Int32) → (Nat → Int32) → (Nat → Int32) → (Nat → Int32) → Prop} {x4 x15 x16 : Int32} {kc ks : Nat}
variable {n L : Nat} {m : Int32} {B : Nat → Nat} {H : Nat → Int32} {w : Nat} {wr ph st : Nat → Int32} {u : St2} {p : Nat} {h0 h1 h2 : Int64} {x13 x14 : Int32}
theorem wq_337 {a q k : Nat} (hJ : ∀ (h0 h1 h2 : Int64) (w : Nat) (x13 x14 : Int32) (u : St2), wq_I n L m h0 h1 h2 w x13 u → J h0 h1 h2 (nI w) x13 x14 (x16 + 1) u.1 u.2.1 u.2.2.1 u.2.2.2.1 u.2.2.2.2.1 u.2.2.2.2.2.1 u.2.2.2.2.2.2.1 u.2.2.2.2.2.2.2.1 u.2.2.2.2.2.2.2.2.1 u.2.2.2.2.2.2.2.2.2.1 u.2.2.2.2.2.2.2.2.2.2.1 u.2.2.2.2.2.2.2.2.2.2.2.1 u.2.2.2.2.2.2.2.2.2.2.2.2.1 u.2.2.2.2.2.2.2.2.2.2.2.2.2.1 u.2.2.2.2.2.2.2.2.2.2.2.2.2.2.1 u.2.2.2.2.2.2.2.2.2.2.2.2.2.2.2.1 u.2.2.2.2.2.2.2.2.2.2.2.2.2.2.2.2.1 u.2.2.2.2.2.2.2.2.2.2.2.2.2.2.2.2.2.1 u.2.2.2.2.2.2.2.2.2.2.2.2.2.2.2.2.2.2.1 u.2.2.2.2.2.2.2.2.2.2.2.2.2.2.2.2.2.2.2.1 u.2.2.2.2.2.2.2.2.2.2.2.2.2.2.2.2.2.2.2.2)
    (hn : n ≤ 6) (hp : p < n) (hq : q < n) (hpq : q ≠ p) (hS : wq_S n L m B H w wr ph st u) (hl : wq_log h0 h1 h2 wr w) (hB : wq_bits n x13 B) (hk : k < 2 ^ 31) (ha : a = 5 ∨ a = 6) :
    wL_law_337 post N xs J (nI n) m x4 h0 h1 h2 (nI w) x13 x14 x15 x16 (nI p) (nI a) (nI q) (nI k) kc ks u.1 u.2.1 u.2.2.1 u.2.2.2.1 u.2.2.2.2.1 u.2.2.2.2.2.1 u.2.2.2.2.2.2.1 u.2.2.2.2.2.2.2.1 u.2.2.2.2.2.2.2.2.1 u.2.2.2.2.2.2.2.2.2.1 u.2.2.2.2.2.2.2.2.2.2.1 u.2.2.2.2.2.2.2.2.2.2.2.1 u.2.2.2.2.2.2.2.2.2.2.2.2.1 u.2.2.2.2.2.2.2.2.2.2.2.2.2.1 u.2.2.2.2.2.2.2.2.2.2.2.2.2.2.1 u.2.2.2.2.2.2.2.2.2.2.2.2.2.2.2.1 u.2.2.2.2.2.2.2.2.2.2.2.2.2.2.2.2.1 u.2.2.2.2.2.2.2.2.2.2.2.2.2.2.2.2.2.1 u.2.2.2.2.2.2.2.2.2.2.2.2.2.2.2.2.2.2.1 u.2.2.2.2.2.2.2.2.2.2.2.2.2.2.2.2.2.2.2.1 u.2.2.2.2.2.2.2.2.2.2.2.2.2.2.2.2.2.2.2.2 := by
  have e1 : 1 + (nI k - nI k / 7 * 7) = nI (1 + k % 7) := by
    rw [show nI k - nI k / 7 * 7 = nI (k % 7) from pk_rem (a := k) (d := 7) hk (by decide) (by decide)]
    exact nI_add 1 (k % 7)
  have e2 : 1 + (2 * ((((nI k).toUInt32 >>> ((3 : Int32).toUInt32 &&& Int32.toUInt32 31)).toInt32) &&& 3)) = nI (1 + 2 * (k / 8 % 4)) := by
    rw [pk_ushrN (n := k) (by omega) 3 3 (by decide), pk_andN (n := k / 2 ^ 3) (Nat.lt_of_le_of_lt (Nat.div_le_self _ _) (by omega)) (m := 3) 2 (by decide)]
    rw [show (2 : Int32) * nI (k / 2 ^ 3 % 2 ^ 2) = nI (2 * (k / 2 ^ 3 % 2 ^ 2)) from pk_mul 2 _]
    exact nI_add 1 _
  refine ⟨by decide, nm_r e1 (nm_r e2 ⟨9, ?_⟩)⟩
  have hm7 : k % 7 < 7 := Nat.mod_lt k (by decide)
  have hm4 : k / 8 % 4 < 4 := Nat.mod_lt _ (by decide)
  rcases ha with rfl | rfl
  · refine wq_364 (f := fun i => (k + i * (1 + 2 * (k / 8 % 4))) % 8) hJ hn hS hl hB (fun i hi => ⟨?_, fun _ => ?_, fun z => absurd rfl z, fun z => absurd rfl z⟩) (fun a b c ab bc c8 e => ?_) 8 0 0 rfl (by decide) (fun j hj => by omega)
    · show (k + i * (1 + 2 * (k / 8 % 4))) % 8 < 16
      omega
    · have hb : i * (1 + 2 * (k / 8 % 4)) ≤ 7 * 7 := Nat.mul_le_mul (by omega) (by omega)
      rw [pk_mul, nI_add]
      exact pk_andN (n := k + i * (1 + 2 * (k / 8 % 4))) (by omega) (m := 7) 3 (by decide)
    · exfalso
      have o4 : k / 8 % 4 = 0 ∨ k / 8 % 4 = 1 ∨ k / 8 % 4 = 2 ∨ k / 8 % 4 = 3 := by omega
      generalize k / 8 % 4 = y at e o4
      rcases o4 with rfl | rfl | rfl | rfl <;> omega
  · refine wq_364 (f := fun i => if i < 1 + k % 7 then p else q) hJ hn hS hl hB (fun i hi => ⟨?_, fun z => absurd z (by decide), fun _ z => ?_, fun _ z => ?_⟩) (fun a b c ab bc c8 e => ?_) 8 0 0 rfl (by decide) (fun j hj => by omega)
    · show (if i < 1 + k % 7 then p else q) < 16
      split <;> omega
    · rw [nI_leI (by omega) (by omega)] at z
      show nI q = nI (if i < 1 + k % 7 then p else q)
      rw [if_neg (by omega)]
    · rw [nI_leI (by omega) (by omega)] at z
      show nI p = nI (if i < 1 + k % 7 then p else q)
      rw [if_pos (by omega)]
    · by_cases ca : a < 1 + k % 7
      · rw [if_pos ca] at e ⊢
        by_cases cc : c < 1 + k % 7
        · rw [if_pos (by omega)]
        · rw [if_neg cc] at e
          exact absurd e.symm hpq
      · rw [if_neg ca, if_neg (by omega)]
theorem wq_317 {x17 : Int32} {a q k : Nat} (hJ : ∀ (h0 h1 h2 : Int64) (w : Nat) (x13 x14 : Int32) (u : St2), wq_I n L m h0 h1 h2 w x13 u → J h0 h1 h2 (nI w) x13 x14 (x16 + 1) u.1 u.2.1 u.2.2.1 u.2.2.2.1 u.2.2.2.2.1 u.2.2.2.2.2.1 u.2.2.2.2.2.2.1 u.2.2.2.2.2.2.2.1 u.2.2.2.2.2.2.2.2.1 u.2.2.2.2.2.2.2.2.2.1 u.2.2.2.2.2.2.2.2.2.2.1 u.2.2.2.2.2.2.2.2.2.2.2.1 u.2.2.2.2.2.2.2.2.2.2.2.2.1 u.2.2.2.2.2.2.2.2.2.2.2.2.2.1 u.2.2.2.2.2.2.2.2.2.2.2.2.2.2.1 u.2.2.2.2.2.2.2.2.2.2.2.2.2.2.2.1 u.2.2.2.2.2.2.2.2.2.2.2.2.2.2.2.2.1 u.2.2.2.2.2.2.2.2.2.2.2.2.2.2.2.2.2.1 u.2.2.2.2.2.2.2.2.2.2.2.2.2.2.2.2.2.2.1 u.2.2.2.2.2.2.2.2.2.2.2.2.2.2.2.2.2.2.2.1 u.2.2.2.2.2.2.2.2.2.2.2.2.2.2.2.2.2.2.2.2)
    (hn : n ≤ 6) (hp : p < n) (hq : q < n) (hpq : q ≠ p) (hS : wq_S n L m B H w wr ph st u) (hl : wq_log h0 h1 h2 wr w) (hB : wq_bits n x13 B) (hk : k < 2 ^ 31) (ha : a < 8) :
    wL_law_317 post N xs J (nI n) m x4 h0 h1 h2 (nI w) x13 x14 x15 x16 x17 (nI p) (nI a) (nI q) (nI k) kc ks u.1 u.2.1 u.2.2.1 u.2.2.2.1 u.2.2.2.2.1 u.2.2.2.2.2.1 u.2.2.2.2.2.2.1 u.2.2.2.2.2.2.2.1 u.2.2.2.2.2.2.2.2.1 u.2.2.2.2.2.2.2.2.2.1 u.2.2.2.2.2.2.2.2.2.2.1 u.2.2.2.2.2.2.2.2.2.2.2.1 u.2.2.2.2.2.2.2.2.2.2.2.2.1 u.2.2.2.2.2.2.2.2.2.2.2.2.2.1 u.2.2.2.2.2.2.2.2.2.2.2.2.2.2.1 u.2.2.2.2.2.2.2.2.2.2.2.2.2.2.2.1 u.2.2.2.2.2.2.2.2.2.2.2.2.2.2.2.2.1 u.2.2.2.2.2.2.2.2.2.2.2.2.2.2.2.2.2.1 u.2.2.2.2.2.2.2.2.2.2.2.2.2.2.2.2.2.2.1 u.2.2.2.2.2.2.2.2.2.2.2.2.2.2.2.2.2.2.2.1 u.2.2.2.2.2.2.2.2.2.2.2.2.2.2.2.2.2.2.2.2 := by
  have k4 := wq_475 (post := post) (N := N) (xs := xs) (x4 := x4) (x14 := x14) (x15 := x15) (x17 := x17) (a := a) (kc := kc) (ks := ks) hJ hn hp hS hl hB hk
  refine nm_e (br_c (fun z => ?_) (fun _ => br_c (fun z => ?_) (fun _ => br_c (fun _ => ⟨by decide, br_c (fun _ => br_c (fun _ => k4) (fun _ => ?_)) (fun _ => k4)⟩) (fun _ => k4))))
  · exact wq_337 hJ hn hp hq hpq hS hl hB hk (Or.inl ((nI_eq (b := 5) (by omega) (by decide)).mp z))
  · exact wq_337 hJ hn hp hq hpq hS hl hB hk (Or.inr ((nI_eq (b := 6) (by omega) (by decide)).mp z))
  · obtain ⟨r, H', u', hS', g⟩ := wq_halt hS hp
    have fin := fun y => wq_after1 (post := post) (N := N) (xs := xs) (x4 := x4) (x14 := y) (x15 := x15) (kc := kc) (ks := ks) hJ (show p < 6 by omega) hS' hl (Or.inl ⟨rfl, rfl⟩) hB
    obtain ⟨ub, vV, vC, hV, it, sw, ew, lb, vw, co, nx, lc, mc, fc, rv, wn, rd, ra, rfl, hR⟩ := hS
    obtain ⟨ub1, vV1, vC1, hV1, it1, sw1, ew1, lb1, vw1, co1, nx1, lc1, mc1, fc1, rv1, wn1, rd1, ra1, rfl, hR1⟩ := hS'
    exact g _ (br_c (fun _ => nm_e (fin _)) (fun _ => fin _))
theorem wq_281_0 {x17 : Int32} {a q k : Nat} (hJ : ∀ (h0 h1 h2 : Int64) (w : Nat) (x13 x14 : Int32) (u : St2), wq_I n L m h0 h1 h2 w x13 u → J h0 h1 h2 (nI w) x13 x14 (x16 + 1) u.1 u.2.1 u.2.2.1 u.2.2.2.1 u.2.2.2.2.1 u.2.2.2.2.2.1 u.2.2.2.2.2.2.1 u.2.2.2.2.2.2.2.1 u.2.2.2.2.2.2.2.2.1 u.2.2.2.2.2.2.2.2.2.1 u.2.2.2.2.2.2.2.2.2.2.1 u.2.2.2.2.2.2.2.2.2.2.2.1 u.2.2.2.2.2.2.2.2.2.2.2.2.1 u.2.2.2.2.2.2.2.2.2.2.2.2.2.1 u.2.2.2.2.2.2.2.2.2.2.2.2.2.2.1 u.2.2.2.2.2.2.2.2.2.2.2.2.2.2.2.1 u.2.2.2.2.2.2.2.2.2.2.2.2.2.2.2.2.1 u.2.2.2.2.2.2.2.2.2.2.2.2.2.2.2.2.2.1 u.2.2.2.2.2.2.2.2.2.2.2.2.2.2.2.2.2.2.1 u.2.2.2.2.2.2.2.2.2.2.2.2.2.2.2.2.2.2.2.1 u.2.2.2.2.2.2.2.2.2.2.2.2.2.2.2.2.2.2.2.2)
    (hn : n ≤ 6) (hp : p < n) (hq : q < n) (hpq : q ≠ p) (hS : wq_S n L m B H w wr ph st u) (eh : H p = 0) (e0 : ph p = 0) (hl : wq_log h0 h1 h2 wr w) (hB : wq_bits n x13 B) (hk : k < 2 ^ 31) (ha : a < 8) :
    wL_law_281 post N xs J (nI n) m x4 h0 h1 h2 (nI w) x13 x14 x15 x16 x17 (nI p) (nI a) (nI q) (nI k) 0 kc ks u.1 u.2.1 u.2.2.1 u.2.2.2.1 u.2.2.2.2.1 u.2.2.2.2.2.1 u.2.2.2.2.2.2.1 u.2.2.2.2.2.2.2.1 u.2.2.2.2.2.2.2.2.1 u.2.2.2.2.2.2.2.2.2.1 u.2.2.2.2.2.2.2.2.2.2.1 u.2.2.2.2.2.2.2.2.2.2.2.1 u.2.2.2.2.2.2.2.2.2.2.2.2.1 u.2.2.2.2.2.2.2.2.2.2.2.2.2.1 u.2.2.2.2.2.2.2.2.2.2.2.2.2.2.1 u.2.2.2.2.2.2.2.2.2.2.2.2.2.2.2.1 u.2.2.2.2.2.2.2.2.2.2.2.2.2.2.2.2.1 u.2.2.2.2.2.2.2.2.2.2.2.2.2.2.2.2.2.1 u.2.2.2.2.2.2.2.2.2.2.2.2.2.2.2.2.2.2.1 u.2.2.2.2.2.2.2.2.2.2.2.2.2.2.2.2.2.2.2.1 u.2.2.2.2.2.2.2.2.2.2.2.2.2.2.2.2.2.2.2.2 := by
  obtain ⟨ph', st', u', hS', g⟩ := wq_scan hS hp eh e0
  have fin := wq_317 (post := post) (N := N) (xs := xs) (x4 := x4) (x14 := x14) (x15 := x15) (x17 := x17) (kc := kc) (ks := ks) hJ hn hp hq hpq hS' hl (wq_bits_0 hB hn hp) hk ha
  obtain ⟨ub, vV, vC, hV, it, sw, ew, lb, vw, co, nx, lc, mc, fc, rv, wn, rd, ra, rfl, hR⟩ := hS
  obtain ⟨ub1, vV1, vC1, hV1, it1, sw1, ew1, lb1, vw1, co1, nx1, lc1, mc1, fc1, rv1, wn1, rd1, ra1, rfl, hR1⟩ := hS'
  exact br_t rfl (g _ (nm_e fin))
theorem wq_281_1 {x17 : Int32} {a q k : Nat} (hJ : ∀ (h0 h1 h2 : Int64) (w : Nat) (x13 x14 : Int32) (u : St2), wq_I n L m h0 h1 h2 w x13 u → J h0 h1 h2 (nI w) x13 x14 (x16 + 1) u.1 u.2.1 u.2.2.1 u.2.2.2.1 u.2.2.2.2.1 u.2.2.2.2.2.1 u.2.2.2.2.2.2.1 u.2.2.2.2.2.2.2.1 u.2.2.2.2.2.2.2.2.1 u.2.2.2.2.2.2.2.2.2.1 u.2.2.2.2.2.2.2.2.2.2.1 u.2.2.2.2.2.2.2.2.2.2.2.1 u.2.2.2.2.2.2.2.2.2.2.2.2.1 u.2.2.2.2.2.2.2.2.2.2.2.2.2.1 u.2.2.2.2.2.2.2.2.2.2.2.2.2.2.1 u.2.2.2.2.2.2.2.2.2.2.2.2.2.2.2.1 u.2.2.2.2.2.2.2.2.2.2.2.2.2.2.2.2.1 u.2.2.2.2.2.2.2.2.2.2.2.2.2.2.2.2.2.1 u.2.2.2.2.2.2.2.2.2.2.2.2.2.2.2.2.2.2.1 u.2.2.2.2.2.2.2.2.2.2.2.2.2.2.2.2.2.2.2.1 u.2.2.2.2.2.2.2.2.2.2.2.2.2.2.2.2.2.2.2.2)
    (hn : n ≤ 6) (hp : p < n) (hq : q < n) (hpq : q ≠ p) (hS : wq_S n L m (wq_ub B p 1) H w wr ph st u) (hl : wq_log h0 h1 h2 wr w) (hB : wq_bits n x13 B) (hk : k < 2 ^ 31) (ha : a < 8) :
    wL_law_281 post N xs J (nI n) m x4 h0 h1 h2 (nI w) x13 x14 x15 x16 x17 (nI p) (nI a) (nI q) (nI k) 1 kc ks u.1 u.2.1 u.2.2.1 u.2.2.2.1 u.2.2.2.2.1 u.2.2.2.2.2.1 u.2.2.2.2.2.2.1 u.2.2.2.2.2.2.2.1 u.2.2.2.2.2.2.2.2.1 u.2.2.2.2.2.2.2.2.2.1 u.2.2.2.2.2.2.2.2.2.2.1 u.2.2.2.2.2.2.2.2.2.2.2.1 u.2.2.2.2.2.2.2.2.2.2.2.2.1 u.2.2.2.2.2.2.2.2.2.2.2.2.2.1 u.2.2.2.2.2.2.2.2.2.2.2.2.2.2.1 u.2.2.2.2.2.2.2.2.2.2.2.2.2.2.2.1 u.2.2.2.2.2.2.2.2.2.2.2.2.2.2.2.2.1 u.2.2.2.2.2.2.2.2.2.2.2.2.2.2.2.2.2.1 u.2.2.2.2.2.2.2.2.2.2.2.2.2.2.2.2.2.2.1 u.2.2.2.2.2.2.2.2.2.2.2.2.2.2.2.2.2.2.2.1 u.2.2.2.2.2.2.2.2.2.2.2.2.2.2.2.2.2.2.2.2 :=
  br_f (by decide) (nm_e (wq_317 hJ hn hp hq hpq hS hl (wq_bits_1 hB hn hp) hk ha))
theorem wq_182 {x17 : Int32} {a y : Nat} (hJ : ∀ (h0 h1 h2 : Int64) (w : Nat) (x13 x14 : Int32) (u : St2), wq_I n L m h0 h1 h2 w x13 u → J h0 h1 h2 (nI w) x13 x14 (x16 + 1) u.1 u.2.1 u.2.2.1 u.2.2.2.1 u.2.2.2.2.1 u.2.2.2.2.2.1 u.2.2.2.2.2.2.1 u.2.2.2.2.2.2.2.1 u.2.2.2.2.2.2.2.2.1 u.2.2.2.2.2.2.2.2.2.1 u.2.2.2.2.2.2.2.2.2.2.1 u.2.2.2.2.2.2.2.2.2.2.2.1 u.2.2.2.2.2.2.2.2.2.2.2.2.1 u.2.2.2.2.2.2.2.2.2.2.2.2.2.1 u.2.2.2.2.2.2.2.2.2.2.2.2.2.2.1 u.2.2.2.2.2.2.2.2.2.2.2.2.2.2.2.1 u.2.2.2.2.2.2.2.2.2.2.2.2.2.2.2.2.1 u.2.2.2.2.2.2.2.2.2.2.2.2.2.2.2.2.2.1 u.2.2.2.2.2.2.2.2.2.2.2.2.2.2.2.2.2.2.1 u.2.2.2.2.2.2.2.2.2.2.2.2.2.2.2.2.2.2.2.1 u.2.2.2.2.2.2.2.2.2.2.2.2.2.2.2.2.2.2.2.2)
    (h2n : 2 ≤ n) (hn : n ≤ 6) (hw : w ≤ 63) (hp : p < n) (hS : wq_S n L m B H w wr ph st u) (hl : wq_log h0 h1 h2 wr w) (hB : wq_bits n x13 B) (hy : y < 2 ^ 31) (ha : a < 8) :
    wL_law_182 post N xs J (nI n) m x4 h0 h1 h2 (nI w) x13 x14 x15 x16 x17 (nI y) (nI p) (nI a) kc ks u.1 u.2.1 u.2.2.1 u.2.2.2.1 u.2.2.2.2.1 u.2.2.2.2.2.1 u.2.2.2.2.2.2.1 u.2.2.2.2.2.2.2.1 u.2.2.2.2.2.2.2.2.1 u.2.2.2.2.2.2.2.2.2.1 u.2.2.2.2.2.2.2.2.2.2.1 u.2.2.2.2.2.2.2.2.2.2.2.1 u.2.2.2.2.2.2.2.2.2.2.2.2.1 u.2.2.2.2.2.2.2.2.2.2.2.2.2.1 u.2.2.2.2.2.2.2.2.2.2.2.2.2.2.1 u.2.2.2.2.2.2.2.2.2.2.2.2.2.2.2.1 u.2.2.2.2.2.2.2.2.2.2.2.2.2.2.2.2.1 u.2.2.2.2.2.2.2.2.2.2.2.2.2.2.2.2.2.1 u.2.2.2.2.2.2.2.2.2.2.2.2.2.2.2.2.2.2.1 u.2.2.2.2.2.2.2.2.2.2.2.2.2.2.2.2.2.2.2.1 u.2.2.2.2.2.2.2.2.2.2.2.2.2.2.2.2.2.2.2.2 := by
  obtain ⟨q1, q2⟩ := wq_q (E := y / 2 ^ 5 % 2 ^ 10) h2n hn hp
  have e1 : (nI n - 1 : Int32) = nI (n - 1) := by
    rw [show n = (n - 1) + 1 by omega, nI_pred]
    rfl
  have e5 : ((((nI y).toUInt32 >>> ((5 : Int32).toUInt32 &&& Int32.toUInt32 31)).toInt32) &&& 1023) = nI (y / 2 ^ 5 % 2 ^ 10) := by
    rw [pk_ushrN (n := y) (by omega) 5 5 (by decide), pk_andN (n := y / 2 ^ 5) (Nat.lt_of_le_of_lt (Nat.div_le_self _ _) (by omega)) (m := 1023) 10 (by decide)]
  have hE : y / 2 ^ 5 % 2 ^ 10 < 1024 := Nat.mod_lt _ (by decide)
  have hM : y / 2 ^ 5 % 2 ^ 10 % (n - 1) < n - 1 := Nat.mod_lt _ (by omega)
  have e15 : ((nI y).toUInt32 >>> ((15 : Int32).toUInt32 &&& Int32.toUInt32 31)).toInt32 = nI (y / 2 ^ 15) := pk_ushrN (n := y) (by omega) 15 15 (by decide)
  have hk : y / 2 ^ 15 < 2 ^ 31 := Nat.lt_of_le_of_lt (Nat.div_le_self _ _) hy
  generalize y / 2 ^ 5 % 2 ^ 10 = E at q1 q2 e5 hE hM
  generalize y / 2 ^ 15 = k at e15 hk
  unfold wL_law_182
  rw [e1, e5, pk_rem (a := E) (d := n - 1) (by omega) (by omega) (by omega), nI_1, nI_add, pk_rem (a := p + 1 + E % (n - 1)) (d := n) (by omega) (by omega) (by omega)]
  refine ⟨nI_ne0 (by omega) (by omega), nI_ne0 (by omega) (by omega), nm_e (nm_r e15 ?_)⟩
  obtain ⟨t, ht, et⟩ := wq_ph4 hS hp
  have k3 := wq_317 (post := post) (N := N) (xs := xs) (x4 := x4) (x14 := x14) (x15 := x15) (x17 := x17) (kc := kc) (ks := ks) hJ hn hp q1 q2 hS hl hB hk ha
  have hS0 := hS
  have upd' : H p = 0 → ph p = 0 → (wL_law_281 post N xs J (nI n) m x4 h0 h1 h2 (nI w) x13 x14 x15 x16 x17 (nI p) (nI a) (nI ((p + 1 + E % (n - 1)) % n)) (nI k) 0 kc ks u.1 u.2.1 u.2.2.1 u.2.2.2.1 u.2.2.2.2.1 u.2.2.2.2.2.1 u.2.2.2.2.2.2.1 u.2.2.2.2.2.2.2.1 u.2.2.2.2.2.2.2.2.1 u.2.2.2.2.2.2.2.2.2.1 u.2.2.2.2.2.2.2.2.2.2.1 u.2.2.2.2.2.2.2.2.2.2.2.1 u.2.2.2.2.2.2.2.2.2.2.2.2.1 u.2.2.2.2.2.2.2.2.2.2.2.2.2.1 u.2.2.2.2.2.2.2.2.2.2.2.2.2.2.1 u.2.2.2.2.2.2.2.2.2.2.2.2.2.2.2.1 u.2.2.2.2.2.2.2.2.2.2.2.2.2.2.2.2.1 u.2.2.2.2.2.2.2.2.2.2.2.2.2.2.2.2.2.1 u.2.2.2.2.2.2.2.2.2.2.2.2.2.2.2.2.2.2.1 u.2.2.2.2.2.2.2.2.2.2.2.2.2.2.2.2.2.2.2.1 u.2.2.2.2.2.2.2.2.2.2.2.2.2.2.2.2.2.2.2.2) := fun eh e0 => wq_281_0 hJ hn hp q1 q2 hS eh e0 hl hB hk ha
  obtain ⟨ub, vV, vC, hV, it, sw, ew, lb, vw, co, nx, lc, mc, fc, rv, wn, rd, ra, rfl, hR⟩ := hS
  refine wq_phase hS0 hp (fun eh => ?_) (fun eh => ?_)
  · by_cases e0 : ph p = 0
    · refine br_t e0 (br_c (fun _ => br_c (fun _ => upd' eh e0) (fun _ => ?_)) (fun _ => upd' eh e0))
      refine wq_cntw hl hw (Nat.le_refl w) (by omega) (nm_r (nI_1 _) (wq_valw ?_))
      rcases wq_update hS0 hp eh e0 with ⟨ph', st', u', hS', g⟩ | g
      · have fin := wq_281_1 (post := post) (N := N) (xs := xs) (x4 := x4) (x14 := x14) (x15 := x15) (x17 := x17) (kc := kc) (ks := ks) hJ hn hp q1 q2 hS' hl hB hk ha
        obtain ⟨ub1, vV1, vC1, hV1, it1, sw1, ew1, lb1, vw1, co1, nx1, lc1, mc1, fc1, rv1, wn1, rd1, ra1, rfl, hR1⟩ := hS'
        exact g _ (br_t rfl fin)
      · exact g _ _ (br_f (by decide) (upd' eh e0))
    · exact br_f e0 k3
  · refine br_f ?_ k3
    rw [et, show (4 : Int32) = nI 4 from rfl, nI_add]
    exact nI_ne0 (by omega) (by omega)
theorem wq_160 {x17 : Int32} {y : Nat} (hJ : ∀ (h0 h1 h2 : Int64) (w : Nat) (x13 x14 : Int32) (u : St2), wq_I n L m h0 h1 h2 w x13 u → J h0 h1 h2 (nI w) x13 x14 (x16 + 1) u.1 u.2.1 u.2.2.1 u.2.2.2.1 u.2.2.2.2.1 u.2.2.2.2.2.1 u.2.2.2.2.2.2.1 u.2.2.2.2.2.2.2.1 u.2.2.2.2.2.2.2.2.1 u.2.2.2.2.2.2.2.2.2.1 u.2.2.2.2.2.2.2.2.2.2.1 u.2.2.2.2.2.2.2.2.2.2.2.1 u.2.2.2.2.2.2.2.2.2.2.2.2.1 u.2.2.2.2.2.2.2.2.2.2.2.2.2.1 u.2.2.2.2.2.2.2.2.2.2.2.2.2.2.1 u.2.2.2.2.2.2.2.2.2.2.2.2.2.2.2.1 u.2.2.2.2.2.2.2.2.2.2.2.2.2.2.2.2.1 u.2.2.2.2.2.2.2.2.2.2.2.2.2.2.2.2.2.1 u.2.2.2.2.2.2.2.2.2.2.2.2.2.2.2.2.2.2.1 u.2.2.2.2.2.2.2.2.2.2.2.2.2.2.2.2.2.2.2.1 u.2.2.2.2.2.2.2.2.2.2.2.2.2.2.2.2.2.2.2.2)
    (h2n : 2 ≤ n) (hn : n ≤ 6) (hw : w ≤ 63) (hp : p < n) (hS : wq_S n L m B H w wr ph st u) (hl : wq_log h0 h1 h2 wr w) (hB : wq_bits n x13 B) (hy : y < 2 ^ 31) :
    wL_law_160 post N xs J (nI n) m x4 h0 h1 h2 (nI w) x13 x14 x15 x16 x17 (nI y) (nI p) kc ks u.1 u.2.1 u.2.2.1 u.2.2.2.1 u.2.2.2.2.1 u.2.2.2.2.2.1 u.2.2.2.2.2.2.1 u.2.2.2.2.2.2.2.1 u.2.2.2.2.2.2.2.2.1 u.2.2.2.2.2.2.2.2.2.1 u.2.2.2.2.2.2.2.2.2.2.1 u.2.2.2.2.2.2.2.2.2.2.2.1 u.2.2.2.2.2.2.2.2.2.2.2.2.1 u.2.2.2.2.2.2.2.2.2.2.2.2.2.1 u.2.2.2.2.2.2.2.2.2.2.2.2.2.2.1 u.2.2.2.2.2.2.2.2.2.2.2.2.2.2.2.1 u.2.2.2.2.2.2.2.2.2.2.2.2.2.2.2.2.1 u.2.2.2.2.2.2.2.2.2.2.2.2.2.2.2.2.2.1 u.2.2.2.2.2.2.2.2.2.2.2.2.2.2.2.2.2.2.1 u.2.2.2.2.2.2.2.2.2.2.2.2.2.2.2.2.2.2.2.1 u.2.2.2.2.2.2.2.2.2.2.2.2.2.2.2.2.2.2.2.2 := by
  have hy' : y / n < 2 ^ 31 := Nat.lt_of_le_of_lt (Nat.div_le_self _ _) hy
  have h8 : y / n % 2 ^ 3 < 8 := Nat.mod_lt _ (by decide)
  refine ⟨nI_ne0 (by omega) (by omega), nm_r (pk_div hy (by omega) (by omega)) (br_c (fun _ => ?_) (fun _ => ?_))⟩
  · rw [pk_andN (n := y / n) (by omega) (m := 7) 3 (by decide)]
    exact wq_182 hJ h2n hn hw hp hS hl hB hy' h8
  · exact wq_182 (a := 3) hJ h2n hn hw hp hS hl hB hy' (by omega)
end
theorem wq_w63 {n L : Nat} {m : Int32} {B : Nat → Nat} {H : Nat → Int32} {w : Nat} {wr ph st : Nat → Int32} {u : St2} (h : wq_S n L m B H w wr ph st u) : 2 ≤ n ∧ n ≤ 6 ∧ w ≤ 63 := by
  obtain ⟨ub, vV, vC, hV, it, sw, ew, lb, vw, co, nx, lc, mc, fc, rv, wn, rd, ra, rfl, hR⟩ := h
  obtain ⟨h2, h6, hL, hub, hact, _⟩ := hR
  exact ⟨h2, h6, by omega⟩
theorem wq_103 {N : Nat} {xs : Nat → Int32} {n L len : Nat} {m x4 : Int32} {kc ks : Nat} (hN : N ≤ 260) (h2n : 2 ≤ n) (hn : n ≤ 6) (hlen : len ≤ 260) : ∀ (d r : Nat) (h0 h1 h2 : Int64) (w : Nat) (x13 x14 : Int32) (u : St2), r + d = len + n → wq_I n L m h0 h1 h2 w x13 u →
    wL_law_103 (fun r => r = 1) N xs (nI n) m x4 (nI len) kc ks (d + 1) h0 h1 h2 (nI w) x13 x14 (nI r) u.1 u.2.1 u.2.2.1 u.2.2.2.1 u.2.2.2.2.1 u.2.2.2.2.2.1 u.2.2.2.2.2.2.1 u.2.2.2.2.2.2.2.1 u.2.2.2.2.2.2.2.2.1 u.2.2.2.2.2.2.2.2.2.1 u.2.2.2.2.2.2.2.2.2.2.1 u.2.2.2.2.2.2.2.2.2.2.2.1 u.2.2.2.2.2.2.2.2.2.2.2.2.1 u.2.2.2.2.2.2.2.2.2.2.2.2.2.1 u.2.2.2.2.2.2.2.2.2.2.2.2.2.2.1 u.2.2.2.2.2.2.2.2.2.2.2.2.2.2.2.1 u.2.2.2.2.2.2.2.2.2.2.2.2.2.2.2.2.1 u.2.2.2.2.2.2.2.2.2.2.2.2.2.2.2.2.2.1 u.2.2.2.2.2.2.2.2.2.2.2.2.2.2.2.2.2.2.1 u.2.2.2.2.2.2.2.2.2.2.2.2.2.2.2.2.2.2.2.1 u.2.2.2.2.2.2.2.2.2.2.2.2.2.2.2.2.2.2.2.2 := by
  intro d
  induction d with
  | zero =>
    intro r h0 h1 h2 w x13 x14 u hr hI
    refine br_t ?_ rfl
    rw [nI_add]
    exact nI_le (by omega) (by omega)
  | succ d ih =>
    intro r h0 h1 h2 w x13 x14 u hr hI
    have hJ : ∀ (h0 h1 h2 : Int64) (w : Nat) (x13 x14 : Int32) (u : St2), wq_I n L m h0 h1 h2 w x13 u → wL_law_103 (fun r => r = 1) N xs (nI n) m x4 (nI len) kc ks (d + 1) h0 h1 h2 (nI w) x13 x14 (nI r + 1) u.1 u.2.1 u.2.2.1 u.2.2.2.1 u.2.2.2.2.1 u.2.2.2.2.2.1 u.2.2.2.2.2.2.1 u.2.2.2.2.2.2.2.1 u.2.2.2.2.2.2.2.2.1 u.2.2.2.2.2.2.2.2.2.1 u.2.2.2.2.2.2.2.2.2.2.1 u.2.2.2.2.2.2.2.2.2.2.2.1 u.2.2.2.2.2.2.2.2.2.2.2.2.1 u.2.2.2.2.2.2.2.2.2.2.2.2.2.1 u.2.2.2.2.2.2.2.2.2.2.2.2.2.2.1 u.2.2.2.2.2.2.2.2.2.2.2.2.2.2.2.1 u.2.2.2.2.2.2.2.2.2.2.2.2.2.2.2.2.1 u.2.2.2.2.2.2.2.2.2.2.2.2.2.2.2.2.2.1 u.2.2.2.2.2.2.2.2.2.2.2.2.2.2.2.2.2.2.1 u.2.2.2.2.2.2.2.2.2.2.2.2.2.2.2.2.2.2.2.1 u.2.2.2.2.2.2.2.2.2.2.2.2.2.2.2.2.2.2.2.2 := by
      intro h0 h1 h2 w x13 x14 u hI
      rw [nI_1]
      exact ih (r + 1) h0 h1 h2 w x13 x14 u (by omega) hI
    obtain ⟨B, H, wr, ph, st, hS, hl, hB⟩ := hI
    have hw := (wq_w63 hS).2.2
    obtain ⟨x, hx, g⟩ := wq_cm (xs := xs) (L := N) (a := r + 4) hN (by omega)
    have e4 : nI r + 4 = nI (r + 4) := nI_add r 4
    refine br_f (by rw [nI_add]; exact nI_ge (by omega) (by omega)) ?_
    by_cases c : r < len
    · refine br_t (nI_lt c (by omega)) ?_
      unfold wL_law_124
      rw [e4]
      refine g _ ?_ _ rfl
      refine br_t rfl ⟨nI_ne0 (by omega) (by omega), ?_⟩
      rw [pk_rem hx (by omega) (by omega)]
      exact wq_160 hJ h2n hn hw (Nat.mod_lt x (by omega)) hS hl hB hx
    · refine br_f (nI_nlt (by omega) (by omega)) ?_
      unfold wL_law_124
      rw [e4]
      refine g _ ?_ _ rfl
      refine br_f (by decide) ?_
      rw [pk_sub (show len ≤ r by omega)]
      exact wq_160 hJ h2n hn hw (show r - len < n by omega) hS hl hB hx
end
section
/-! the start of the law -/
theorem wx_clamp {post : Int32 → Prop} {x : Int32} {lo hi m : Nat} (c : (nI lo ≤ x ∧ x ≤ nI hi ∧ x = nI m) ∨ (nI lo ≤ x ∧ ¬ x ≤ nI hi ∧ m = hi) ∨ (¬ nI lo ≤ x ∧ m = lo)) (h : post (nI m)) : wpX_clamp post () x (nI lo) (nI hi) := by
  unfold wpX_clamp
  rcases c with ⟨a, b, e⟩ | ⟨a, b, e⟩ | ⟨a, e⟩
  · rw [← e] at h
    exact br_t a (br_t b h)
  · subst e
    exact br_t a (br_f b h)
  · subst e
    exact br_f a h
theorem ws_uz (k : Nat) : upd (fun _ => 0) k 0 = fun _ => 0 := by
  funext x
  show (if x = k then (0 : Int32) else 0) = 0
  split <;> rfl
theorem ws_fz (b k : Nat) : ws_fill (fun _ => 0) b k 0 = fun _ => 0 := by
  funext x
  show (if _ then (0 : Int32) else 0) = 0
  split <;> rfl
theorem ws_f0 (f : Nat → Int32) (k : Nat) (c : Int32) : upd (ws_fill f 0 k c) k c = ws_fill f 0 (k + 1) c := by
  have e := ws_fill_s f 0 k c
  rw [Nat.zero_add] at e
  exact e
theorem ws_fr (f : Nat → Int32) (k : Nat) (c : Int32) : ws_fill (ws_fill f 0 (k * 6) c) (k * 6) 6 c = ws_fill f 0 ((k + 1) * 6) c := by
  funext x
  by_cases z : k * 6 ≤ x ∧ x < k * 6 + 6
  · have a : ws_fill (ws_fill f 0 (k * 6) c) (k * 6) 6 c x = c := if_pos z
    have b : ws_fill f 0 ((k + 1) * 6) c x = c := if_pos (by omega)
    rw [a, b]
  · have a : ws_fill (ws_fill f 0 (k * 6) c) (k * 6) 6 c x = ws_fill f 0 (k * 6) c x := if_neg z
    rw [a]
    by_cases y : 0 ≤ x ∧ x < 0 + k * 6
    · have b : ws_fill f 0 ((k + 1) * 6) c x = c := if_pos (by omega)
      have d : ws_fill f 0 (k * 6) c x = c := if_pos y
      rw [b, d]
    · have b : ws_fill f 0 ((k + 1) * 6) c x = f x := if_neg (by omega)
      have d : ws_fill f 0 (k * 6) c x = f x := if_neg y
      rw [b, d]
def ws_z : Nat → Int32 := fun _ => 0
section
variable {n L : Nat}
theorem wx_init_lp {post : St2 → Prop} {a1 a2 a3 a4 : Nat} : ∀ d k : Nat, k + d = 6 →
    post ((nI n), (nI L), (nI 0), (nI 0), ws_z, ws_z, ws_z, ws_z, ws_z, ws_z, ws_z, (ws_fill ws_z 0 6 (-6)), (ws_fill ws_z 0 6 (-6)), (ws_fill ws_z 0 6 (-6)), (ws_fill ws_z 0 6 (-6)), (ws_fill ws_z 0 6 1), ws_z, ws_z, ws_z, ws_z, (ws_fill ws_z 0 (6 * 6) (-6))) →
    wX_init_167 post a1 a2 a3 a4 (d + 1) (nI k) (nI n) (nI L) (nI 0) (nI 0) ws_z ws_z ws_z ws_z ws_z ws_z ws_z (ws_fill ws_z 0 k (-6)) (ws_fill ws_z 0 k (-6)) (ws_fill ws_z 0 k (-6)) (ws_fill ws_z 0 k (-6)) (ws_fill ws_z 0 k 1) ws_z ws_z ws_z ws_z (ws_fill ws_z 0 (k * 6) (-6)) := by
  intro d
  induction d with
  | zero =>
    intro k hk h
    have e : k = 6 := by omega
    subst e
    exact br_t (nI_le (a := 6) (b := 6) (by omega) (by omega)) h
  | succ d ih =>
    intro k hk h
    have hk6 : k < 6 := by omega
    have g := ih (k + 1) (by omega) h
    have z1 : upd ws_z k 0 = ws_z := ws_uz k
    have z2 : ws_fill ws_z (k * 6) 6 0 = ws_z := ws_fz (k * 6) 6
    rw [← ws_fr ws_z k (-6), ← ws_f0 ws_z k 1, ← ws_f0 ws_z k (-6)] at g
    refine br_f (nI_ge (a := k) (b := 6) (by omega) (by omega)) (wx_forget hk6 ⟨ws_in hk6, nm_r (ws_u (by omega) _ (-6)) (nm_r (nI_1 k) ?_)⟩)
    rw [z1, z2]
    exact g
theorem wq_R0 {m : Int32} (h2 : 2 ≤ n) (h6 : n ≤ 6) (hL : L ≤ 63) : wq_R n L 0 0 m (fun _ => 0) ws_z ws_z ws_z ws_z ws_z ws_z (ws_fill ws_z 0 6 (-6)) (ws_fill ws_z 0 6 (-6)) (ws_fill ws_z 0 6 (-6)) (ws_fill ws_z 0 6 1) ws_z ws_z ws_z ws_z (ws_fill ws_z 0 (6 * 6) (-6)) ws_z ws_z ws_z ws_z := by
  refine ⟨h2, h6, hL, by omega, ?_, ws_V_init, fun j hj => ⟨0, Nat.le_refl 0, rfl, Nat.zero_le _⟩, fun t ht => by omega, ?_, ?_⟩
  · rw [show ws_act ws_z n = 0 from ws_act_0 n]
    exact Nat.le_refl 0
  · intro p hp
    have a : ws_fill ws_z 0 6 (-6) p = -6 := if_pos (by omega)
    rw [a]
    exact ws_P_init (fun j hj => rfl) (fun j hj => if_pos (by omega)) h6
  · intro p hp
    have a : ws_fill ws_z 0 6 (-6) p = -6 := if_pos (by omega)
    exact ⟨0, 0, 0, rfl, by omega, rfl, by omega, rfl, by omega, Nat.zero_le 1, fun z => absurd rfl z, fun z => by omega, fun z => by omega, Or.inl ⟨rfl, rfl, a⟩⟩
theorem wq_init {post : St2 → Prop} (h2 : 2 ≤ n) (h6 : n ≤ 6) (h4 : 4 ≤ L) (hL : L ≤ 128)
    (h : post ((nI n), (nI L), (nI 0), (nI 0), ws_z, ws_z, ws_z, ws_z, ws_z, ws_z, ws_z, (ws_fill ws_z 0 6 (-6)), (ws_fill ws_z 0 6 (-6)), (ws_fill ws_z 0 6 (-6)), (ws_fill ws_z 0 6 (-6)), (ws_fill ws_z 0 6 1), ws_z, ws_z, ws_z, ws_z, (ws_fill ws_z 0 (6 * 6) (-6)))) : wpX_init post 17 1728 (0, 0, 0, 0) (nI n) (nI L) := by
  have c : wpX_clamp (fun r_69 => (wpX_clamp (fun r_70 => (∃ fu167 : Nat, wX_init_167 post 17 1728 17 1728 fu167 0 r_69 r_70 0 0 (fun _ => 0) (fun _ => 0) (fun _ => 0) (fun _ => 0) (fun _ => 0) (fun _ => 0) (fun _ => 0) (fun _ => 0) (fun _ => 0) (fun _ => 0) (fun _ => 0) (fun _ => 0) (fun _ => 0) (fun _ => 0) (fun _ => 0) (fun _ => 0) (fun _ => 0))) () (nI L) 4 128)) () (nI n) 2 6 := by
    refine wx_clamp (lo := 2) (hi := 6) (m := n) (Or.inl ⟨nI_le h2 (by omega), nI_le h6 (by omega), rfl⟩) ?_
    refine wx_clamp (lo := 4) (hi := 128) (m := L) (Or.inl ⟨nI_le h4 (by omega), nI_le hL (by omega), rfl⟩) ?_
    have g := wx_init_lp (post := post) (a1 := 17) (a2 := 1728) (a3 := 17) (a4 := 1728) 6 0 rfl h
    rw [Nat.zero_mul, ws_fill_0, ws_fill_0] at g
    exact ⟨7, g⟩
  unfold wpX_init
  exact ⟨by omega, by omega, by omega, by omega, by omega, by omega, by omega, by omega, by omega, by omega, by omega, by omega, by omega, by omega, by omega, by omega, by omega, by omega, by omega, by omega, by omega, by omega, by omega, by omega, by omega, by omega, by omega, by omega, by omega, by omega, by omega, by omega, by omega, by omega, c⟩
end
end
section
/-! what is owed -/
theorem i_vc (xs : Nat → Int32) (L : Nat) (hL : L ≤ 260) : wpL_law (fun r => r = 1) L xs := by
  obtain ⟨x0, hx0, g0⟩ := wq_cm (xs := xs) (L := L) (a := 0) hL (by omega)
  obtain ⟨x1, hx1, g1⟩ := wq_cm (xs := xs) (L := L) (a := 1) hL (by omega)
  obtain ⟨x2, hx2, g2⟩ := wq_cm (xs := xs) (L := L) (a := 2) hL (by omega)
  obtain ⟨x3, hx3, g3⟩ := wq_cm (xs := xs) (L := L) (a := 3) hL (by omega)
  have e0 : 2 + (nI x0 - nI x0 / 5 * 5) = nI (2 + x0 % 5) := by
    rw [show nI x0 - nI x0 / 5 * 5 = nI (x0 % 5) from pk_rem (a := x0) (d := 5) hx0 (by decide) (by decide)]
    exact nI_add 2 _
  have e1 : 24 + (nI x1 - nI x1 / 40 * 40) = nI (24 + x1 % 40) := by
    rw [show nI x1 - nI x1 / 40 * 40 = nI (x1 % 40) from pk_rem (a := x1) (d := 40) hx1 (by decide) (by decide)]
    exact nI_add 24 _
  have b0 : x0 % 5 < 5 := Nat.mod_lt _ (by decide)
  have b1 : x1 % 40 < 40 := Nat.mod_lt _ (by decide)
  generalize x0 % 5 = y0 at e0 b0
  generalize x1 % 40 = y1 at e1 b1
  unfold wpL_law
  refine g0 _ ⟨by decide, nm_r e0 ?_⟩ 0 rfl
  refine g1 _ ⟨by decide, nm_r e1 ?_⟩ 1 rfl
  refine g2 _ ⟨by decide, nm_e ?_⟩ 2 rfl
  refine g3 _ ⟨nI_ne0 (by omega) (by omega), nm_e ⟨17, 1728, by omega, by omega, ?_⟩⟩ 3 rfl
  refine wq_init (n := 2 + y0) (L := 24 + y1) (by omega) (by omega) (by omega) (by omega) ?_
  have hI : ∀ m : Int32, wq_I (2 + y0) (24 + y1) m 0 0 0 0 0 (nI (2 + y0), nI (24 + y1), nI 0, nI 0, ws_z, ws_z, ws_z, ws_z, ws_z, ws_z, ws_z, ws_fill ws_z 0 6 (-6), ws_fill ws_z 0 6 (-6), ws_fill ws_z 0 6 (-6), ws_fill ws_z 0 6 (-6), ws_fill ws_z 0 6 1, ws_z, ws_z, ws_z, ws_z, ws_fill ws_z 0 (6 * 6) (-6)) :=
    fun m => ⟨fun _ => 0, ws_z, ws_z, ws_z, ws_z, wq_S_i (lb := ws_fill ws_z 0 6 (-6)) (wq_R0 (by omega) (by omega) (by omega)), wq_log_0 ws_z, ⟨0, by omega, rfl, fun i _ => by rw [Nat.zero_div]⟩⟩
  by_cases c : L ≤ 4
  · exact br_t (nI_le (b := 4) c (by omega)) ⟨_, wq_103 (len := 0) hL (by omega) (by omega) (by omega) (0 + (2 + y0)) 0 0 0 0 0 0 0 _ (by omega) (hI _)⟩
  · refine br_f (nI_ge (a := 4) (by omega) (by omega)) (nm_r (e' := nI (L - 4)) (pk_sub (a := L) (b := 4) (by omega)) ⟨L - 4 + (2 + y0) + 1, ?_⟩)
    exact wq_103 (len := L - 4) hL (by omega) (by omega) (by omega) (L - 4 + (2 + y0)) 0 0 0 0 0 0 0 _ (by omega) (hI _)
end
