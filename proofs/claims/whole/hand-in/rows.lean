section
/-! rows pasted from the kit's rows to paste -/
theorem pk_us {f : Nat → Int32} {k : Nat} {x : Int32} : upd f k x k = x := if_pos rfl
theorem pk_un {f : Nat → Int32} {k j : Nat} {x : Int32} (h : j ≠ k) : upd f k x j = f j := if_neg h
theorem pk_sub {a b : Nat} (h : b ≤ a) : nI a - nI b = nI (a - b) := by
  obtain ⟨c, rfl⟩ : ∃ c, a = c + b := ⟨a - b, by omega⟩
  rw [← nI_add, Int32.add_sub_cancel, Nat.add_sub_cancel]
theorem pk_m1 (n : Nat) : nI (n + 1) + (-1) = nI n := by
  rw [← nI_1, Int32.add_assoc, show (1 : Int32) + (-1) = 0 from rfl, Int32.add_zero]
theorem pk_mul (a b : Nat) : nI a * nI b = nI (a * b) := (Int32.ofNat_mul a b).symm
theorem pk_div {a d : Nat} (ha : a < 2 ^ 31) (h0 : 0 < d) (hd : d < 2 ^ 31) : nI a / nI d = nI (a / d) := by
  apply Int32.toInt_inj.mp
  rw [lg_idiv_nonneg (by rw [nI_toInt ha]; omega) (by rw [nI_toInt hd]; omega), nI_toInt ha, nI_toInt hd, nI_toInt (Nat.lt_of_le_of_lt (Nat.div_le_self a d) ha)]
  first | rfl | exact (Int.natCast_ediv _ _).symm
theorem pk_rem {a d : Nat} (ha : a < 2 ^ 31) (h0 : 0 < d) (hd : d < 2 ^ 31) : nI a - nI a / nI d * nI d = nI (a % d) := by
  rw [pk_div ha h0 hd, pk_mul, pk_sub (Nat.div_mul_le_self a d)]
  exact congrArg nI (by have := Nat.div_add_mod' a d; omega)
theorem pk_sub_toInt {a b : Nat} (ha : a < 2 ^ 30) (hb : b < 2 ^ 30) : (nI a - nI b).toInt = (a : Int) - b := by
  rw [Int32.toInt_sub, nI_toInt (by omega), nI_toInt (by omega)]
  exact Int.bmod_eq_of_le (by omega) (by omega)
theorem pk_sneg {a b : Nat} (hb : b < 2 ^ 30) (h : a < b) : nI a - nI b < 0 := by
  rw [Int32.lt_iff_toInt_lt, pk_sub_toInt (by omega) hb, show (0 : Int32).toInt = 0 from by decide]
  omega
theorem pk_ix (x : Int32) {n : Nat} (hn : n < 2 ^ 31) : x < 0 ∨ nI n ≤ x ∨ ∃ j : Nat, j < n ∧ x = nI j := by
  by_cases h : x < 0
  · exact Or.inl h
  · obtain ⟨j, hj, rfl⟩ := nI_of h
    by_cases h2 : j < n
    · exact Or.inr (Or.inr ⟨j, h2, rfl⟩)
    · exact Or.inr (Or.inl (nI_le (by omega) hj))
theorem pk_le {x y : Int32} {A B : Prop} (a b : Nat) (f : a ≤ b → A) (g : b < a → B) (hx : x = nI a := by rfl) (hy : y = nI b := by rfl) (ha : a < 2 ^ 31 := by omega) (hb : b < 2 ^ 31 := by omega) : (x ≤ y → A) ∧ (¬ x ≤ y → B) := by
  subst hx hy
  rw [nI_leI ha hb]
  exact ⟨f, fun z => g (by omega)⟩
theorem pk_lt {x y : Int32} {A B : Prop} (a b : Nat) (f : a < b → A) (g : b ≤ a → B) (hx : x = nI a := by rfl) (hy : y = nI b := by rfl) (ha : a < 2 ^ 31 := by omega) (hb : b < 2 ^ 31 := by omega) : (x < y → A) ∧ (¬ x < y → B) := by
  subst hx hy
  rw [nI_ltI ha hb]
  exact ⟨f, fun z => g (by omega)⟩
theorem pk_eq {x y : Int32} {A B : Prop} (a b : Nat) (f : a = b → A) (g : a ≠ b → B) (hx : x = nI a := by rfl) (hy : y = nI b := by rfl) (ha : a < 2 ^ 31 := by omega) (hb : b < 2 ^ 31 := by omega) : (x = y → A) ∧ (¬ x = y → B) := by
  subst hx hy
  rw [nI_eq ha hb]
  exact ⟨f, g⟩
theorem pk_in {x : Int32} (n N : Nat) (h : n < N) (hx : x = nI n := by rfl) (hN : N < 2 ^ 31 := by omega) : vp_in x N := by
  subst hx
  exact vp_in_nI h hN
theorem pk_cl {x : Int32} (n : Nat) (hx : x = nI n := by rfl) (h : n < 2 ^ 31 := by omega) : x.toNatClampNeg = n := by
  subst hx
  exact nI_clamp h
theorem pk_tn {n : Nat} (h : n < 2 ^ 32) : (nI n).toBitVec.toNat = n := Nat.mod_eq_of_lt h
theorem pk_and (x : Int32) {m : Int32} (k : Nat) (hm : m.toBitVec.toNat = 2 ^ k - 1) : x &&& m = nI (x.toBitVec.toNat % 2 ^ k) := by
  apply Int32.toBitVec_inj.mp
  apply BitVec.eq_of_toNat_eq
  rw [Int32.toBitVec_and, BitVec.toNat_and, hm, Nat.and_two_pow_sub_one_eq_mod]
  show _ = (BitVec.ofNat 32 _).toNat
  rw [BitVec.toNat_ofNat]
  exact (Nat.mod_eq_of_lt (Nat.lt_of_le_of_lt (Nat.mod_le _ _) x.toBitVec.isLt)).symm
theorem pk_andN {n : Nat} (h : n < 2 ^ 32) {m : Int32} (k : Nat) (hm : m.toBitVec.toNat = 2 ^ k - 1) : nI n &&& m = nI (n % 2 ^ k) := by
  rw [pk_and _ k hm, pk_tn h]
theorem pk_andE (x : Int32) {m : Int32} (k : Nat) (hm : m.toBitVec.toNat = 2 ^ k - 1) : ∃ j : Nat, j < 2 ^ k ∧ x &&& m = nI j := ⟨_, Nat.mod_lt _ (Nat.two_pow_pos k), pk_and x k hm⟩
theorem pk_andIn (x : Int32) {m : Int32} (k : Nat) (hm : m.toBitVec.toNat = 2 ^ k - 1) (hk : k ≤ 30) : vp_in (x &&& m) (2 ^ k) := by
  obtain ⟨j, hj, e⟩ := pk_andE x k hm
  rw [e]
  exact vp_in_nI hj (Nat.lt_of_le_of_lt (Nat.pow_le_pow_right (by decide) hk) (by decide))
end
section
/-! the pure picture: counts and last values of a log, latest reads and moves of an operation -/
def ws_cnt (wr : Nat → Int32) (j : Nat) : Nat → Nat
  | 0 => 0
  | v + 1 => if wr v = nI j then ws_cnt wr j v + 1 else ws_cnt wr j v
def ws_last (wr a : Nat → Int32) (j : Nat) : Nat → Int32
  | 0 => 0
  | v + 1 => if wr v = nI j then a v else ws_last wr a j v
def ws_rd (A : Nat → Int32) (n j : Nat) : Nat → Int32
  | 0 => -6
  | s + 1 => if s % n = j then A s else ws_rd A n j s
def ws_mv (wr A : Nat → Int32) (n j : Nat) : Nat → Nat
  | 0 => 0
  | s + 1 => if n ≤ s ∧ s % n = j ∧ ws_cnt wr j (A (s - n)).toNatClampNeg < ws_cnt wr j (A s).toNatClampNeg then s / n + 1 else ws_mv wr A n j s
def ws_b (x : Int32) : Nat := if x = 2 ∨ x = 3 then 1 else 0
def ws_act (ph : Nat → Int32) : Nat → Nat
  | 0 => 0
  | n + 1 => ws_act ph n + ws_b (ph n)
theorem ws_cnt_s (wr : Nat → Int32) (j v : Nat) : ws_cnt wr j (v + 1) = if wr v = nI j then ws_cnt wr j v + 1 else ws_cnt wr j v := rfl
theorem ws_last_s (wr a : Nat → Int32) (j v : Nat) : ws_last wr a j (v + 1) = if wr v = nI j then a v else ws_last wr a j v := rfl
theorem ws_rd_s (A : Nat → Int32) (n j s : Nat) : ws_rd A n j (s + 1) = if s % n = j then A s else ws_rd A n j s := rfl
theorem ws_mv_s (wr A : Nat → Int32) (n j s : Nat) : ws_mv wr A n j (s + 1) = if n ≤ s ∧ s % n = j ∧ ws_cnt wr j (A (s - n)).toNatClampNeg < ws_cnt wr j (A s).toNatClampNeg then s / n + 1 else ws_mv wr A n j s := rfl
theorem ws_cnt_le (wr : Nat → Int32) (j v : Nat) : ws_cnt wr j v ≤ v := by
  induction v with
  | zero => exact Nat.le_refl 0
  | succ v ih =>
    rw [ws_cnt_s]
    split <;> omega
theorem ws_cnt_mono (wr : Nat → Int32) (j a : Nat) : ∀ d : Nat, ws_cnt wr j a ≤ ws_cnt wr j (a + d) := by
  intro d
  induction d with
  | zero => exact Nat.le_refl _
  | succ d ih =>
    rw [show a + (d + 1) = (a + d) + 1 from rfl, ws_cnt_s]
    split <;> omega
theorem ws_cnt_mon (wr : Nat → Int32) (j : Nat) {a b : Nat} (h : a ≤ b) : ws_cnt wr j a ≤ ws_cnt wr j b := by
  have := ws_cnt_mono wr j a (b - a)
  rw [show a + (b - a) = b by omega] at this
  exact this
theorem ws_cnt_upd (wr : Nat → Int32) (w : Nat) (x : Int32) (j : Nat) : ∀ v : Nat, v ≤ w → ws_cnt (upd wr w x) j v = ws_cnt wr j v := by
  intro v
  induction v with
  | zero => intro _; rfl
  | succ v ih =>
    intro h
    rw [ws_cnt_s, ws_cnt_s, ih (by omega), pk_un (show v ≠ w by omega)]
theorem ws_last_upd (wr a : Nat → Int32) (w : Nat) (x y : Int32) (j : Nat) : ∀ v : Nat, v ≤ w → ws_last (upd wr w x) (upd a w y) j v = ws_last wr a j v := by
  intro v
  induction v with
  | zero => intro _; rfl
  | succ v ih =>
    intro h
    rw [ws_last_s, ws_last_s, ih (by omega), pk_un (show v ≠ w by omega), pk_un (show v ≠ w by omega)]
theorem ws_cnt_new (wr : Nat → Int32) (w p j : Nat) (hp : p < 2 ^ 31) (hj : j < 2 ^ 31) : ws_cnt (upd wr w (nI p)) j (w + 1) = if p = j then ws_cnt wr j w + 1 else ws_cnt wr j w := by
  rw [ws_cnt_s, pk_us, ws_cnt_upd wr w (nI p) j w (Nat.le_refl w)]
  by_cases h : p = j
  · rw [if_pos h, if_pos (by rw [h])]
  · rw [if_neg h, if_neg (fun z => h ((nI_eq hp hj).mp z))]
theorem ws_last_new (wr a : Nat → Int32) (w p j : Nat) (y : Int32) (hp : p < 2 ^ 31) (hj : j < 2 ^ 31) : ws_last (upd wr w (nI p)) (upd a w y) j (w + 1) = if p = j then y else ws_last wr a j w := by
  rw [ws_last_s, pk_us, pk_us, ws_last_upd wr a w (nI p) y j w (Nat.le_refl w)]
  by_cases h : p = j
  · rw [if_pos h, if_pos (by rw [h])]
  · rw [if_neg h, if_neg (fun z => h ((nI_eq hp hj).mp z))]
theorem ws_rd_ext {A A' : Nat → Int32} (n j : Nat) : ∀ r : Nat, (∀ s, s < r → A' s = A s) → ws_rd A' n j r = ws_rd A n j r := by
  intro r
  induction r with
  | zero => intro _; rfl
  | succ r ih =>
    intro h
    rw [ws_rd_s, ws_rd_s, ih (fun s hs => h s (by omega)), h r (by omega)]
theorem ws_mv_ext {wr wr' A A' : Nat → Int32} (n j : Nat) : ∀ r : Nat, (∀ s, s < r → ws_cnt wr' j (A' s).toNatClampNeg = ws_cnt wr j (A s).toNatClampNeg) → ws_mv wr' A' n j r = ws_mv wr A n j r := by
  intro r
  induction r with
  | zero => intro _; rfl
  | succ r ih =>
    intro h
    rw [ws_mv_s, ws_mv_s, ih (fun s hs => h s (by omega)), h r (by omega), h (r - n) (by omega)]
theorem ws_mv_le (wr A : Nat → Int32) (n j : Nat) : ∀ r : Nat, ws_mv wr A n j r ≤ r := by
  intro r
  induction r with
  | zero => exact Nat.le_refl 0
  | succ r ih =>
    rw [ws_mv_s]
    have := Nat.div_le_self r n
    split <;> omega
theorem ws_mv_0 (wr A : Nat → Int32) (n j : Nat) : ∀ r : Nat, r ≤ n → ws_mv wr A n j r = 0 := by
  intro r
  induction r with
  | zero => intro _; rfl
  | succ r ih =>
    intro h
    rw [ws_mv_s, if_neg (fun z => by omega)]
    exact ih (by omega)
theorem ws_rd_some (A : Nat → Int32) (n j : Nat) (hj : j < n) : ∀ r : Nat, j < r → ∃ s, s < r ∧ ws_rd A n j r = A s := by
  intro r
  induction r with
  | zero => intro h; omega
  | succ r ih =>
    intro h
    rw [ws_rd_s]
    by_cases e : r % n = j
    · exact ⟨r, by omega, by rw [if_pos e]⟩
    · have hr : j ≠ r := fun z => e (by rw [← z]; exact Nat.mod_eq_of_lt hj)
      obtain ⟨s, hs, es⟩ := ih (by omega)
      exact ⟨s, by omega, by rw [if_neg e, es]⟩
theorem ws_rd_none (A : Nat → Int32) (n j : Nat) : ∀ r : Nat, ws_rd A n j r = -6 ∨ ∃ s, s < r ∧ ws_rd A n j r = A s := by
  intro r
  induction r with
  | zero => exact Or.inl rfl
  | succ r ih =>
    rw [ws_rd_s]
    by_cases e : r % n = j
    · exact Or.inr ⟨r, by omega, by rw [if_pos e]⟩
    · rw [if_neg e]
      rcases ih with h | ⟨s, hs, es⟩
      · exact Or.inl h
      · exact Or.inr ⟨s, by omega, es⟩
theorem ws_n5 {n : Nat} (h2 : 2 ≤ n) (h6 : n ≤ 6) : n = 2 ∨ n = 3 ∨ n = 4 ∨ n = 5 ∨ n = 6 := by omega
theorem ws_md {n : Nat} (h2 : 2 ≤ n) (h6 : n ≤ 6) (s d : Nat) (hd : d + 1 < n) : ¬ (s + 1 + d) % n = s % n := by
  rcases ws_n5 h2 h6 with rfl | rfl | rfl | rfl | rfl <;> omega
theorem ws_mb {n : Nat} (h2 : 2 ≤ n) (h6 : n ≤ 6) (r : Nat) (h : n ≤ r) : (r - n) % n = r % n := by
  rcases ws_n5 h2 h6 with rfl | rfl | rfl | rfl | rfl <;> omega
theorem ws_ml {n : Nat} (h2 : 2 ≤ n) (r : Nat) : r % n < n := Nat.mod_lt r (by omega)
theorem ws_dm1 {n : Nat} (h2 : 2 ≤ n) (h6 : n ≤ 6) (r : Nat) (h : r % n + 1 < n) : (r + 1) / n = r / n ∧ (r + 1) % n = r % n + 1 := by
  rcases ws_n5 h2 h6 with rfl | rfl | rfl | rfl | rfl <;> omega
theorem ws_dm2 {n : Nat} (h2 : 2 ≤ n) (h6 : n ≤ 6) (r : Nat) (h : r % n + 1 = n) : (r + 1) / n = r / n + 1 ∧ (r + 1) % n = 0 ∧ (r + 1) / n * n - 1 = r ∧ (n ≤ r → r / n * n - 1 = r - n) := by
  rcases ws_n5 h2 h6 with rfl | rfl | rfl | rfl | rfl <;> omega
theorem ws_dm3 {n : Nat} (h2 : 2 ≤ n) (h6 : n ≤ 6) (r : Nat) : (r < n → r / n = 0 ∧ r % n = r) ∧ (n ≤ r → 1 ≤ r / n) ∧ (n ≤ r → 0 < r / n * n) ∧ r / n * n ≤ r := by
  rcases ws_n5 h2 h6 with rfl | rfl | rfl | rfl | rfl <;> omega
theorem ws_dm4 {n : Nat} (h2 : 2 ≤ n) (h6 : n ≤ 6) (r : Nat) (h : r / n ≤ n + 1) : r < 48 := by
  rcases ws_n5 h2 h6 with rfl | rfl | rfl | rfl | rfl <;> omega
theorem ws_rd_skip {n : Nat} (h2 : 2 ≤ n) (h6 : n ≤ 6) (A : Nat → Int32) (s : Nat) : ∀ d : Nat, d < n → ws_rd A n (s % n) (s + 1 + d) = A s := by
  intro d
  induction d with
  | zero => intro _; exact if_pos rfl
  | succ d ih =>
    intro hd
    rw [show s + 1 + (d + 1) = (s + 1 + d) + 1 from rfl, ws_rd_s, if_neg (ws_md h2 h6 s d hd)]
    exact ih (by omega)
theorem ws_rd_prev {n : Nat} (h2 : 2 ≤ n) (h6 : n ≤ 6) (A : Nat → Int32) (r : Nat) (h : n ≤ r) : ws_rd A n (r % n) r = A (r - n) := by
  have e := ws_rd_skip h2 h6 A (r - n) (n - 1) (by omega)
  rw [ws_mb h2 h6 r h, show r - n + 1 + (n - 1) = r by omega] at e
  exact e
theorem ws_act_ge (ph : Nat → Int32) (p : Nat) (x : Int32) : ∀ n : Nat, n ≤ p → ws_act (upd ph p x) n = ws_act ph n := by
  intro n
  induction n with
  | zero => intro _; rfl
  | succ n ih =>
    intro h
    show ws_act (upd ph p x) n + ws_b (upd ph p x n) = ws_act ph n + ws_b (ph n)
    rw [ih (by omega), pk_un (show n ≠ p by omega)]
theorem ws_act_upd (ph : Nat → Int32) (p : Nat) (x : Int32) : ∀ n : Nat, p < n → ws_act (upd ph p x) n + ws_b (ph p) = ws_act ph n + ws_b x := by
  intro n
  induction n with
  | zero => intro h; omega
  | succ n ih =>
    intro h
    show ws_act (upd ph p x) n + ws_b (upd ph p x n) + ws_b (ph p) = ws_act ph n + ws_b (ph n) + ws_b x
    by_cases e : p = n
    · subst e
      rw [ws_act_ge ph p x p (Nat.le_refl p), pk_us]
      omega
    · rw [pk_un (show n ≠ p by omega)]
      have := ih (by omega)
      omega
theorem ws_act_0 : ∀ n : Nat, ws_act (fun _ => 0) n = 0 := by
  intro n
  induction n with
  | zero => rfl
  | succ n ih =>
    show ws_act (fun _ => 0) n + ws_b 0 = 0
    rw [ih]
    decide
theorem ws_pig : ∀ (n m : Nat) (f : Nat → Nat), (∀ k, k < m → ∃ j, j < n ∧ f j = k) → m ≤ n := by
  intro n
  induction n with
  | zero =>
    intro m f h
    rcases Nat.eq_zero_or_pos m with z | z
    · omega
    · obtain ⟨j, hj, _⟩ := h 0 z
      omega
  | succ n ih =>
    intro m f h
    by_cases hv : f n < m
    · have := ih (m - 1) (fun j => if f n < f j then f j - 1 else f j) (fun k hk => by
        by_cases hkv : k < f n
        · obtain ⟨j, hj, e⟩ := h k (by omega)
          have hjn : j ≠ n := fun z => by subst z; omega
          refine ⟨j, by omega, ?_⟩
          show (if f n < f j then f j - 1 else f j) = k
          rw [if_neg (by omega)]
          exact e
        · obtain ⟨j, hj, e⟩ := h (k + 1) (by omega)
          have hjn : j ≠ n := fun z => by subst z; omega
          refine ⟨j, by omega, ?_⟩
          show (if f n < f j then f j - 1 else f j) = k
          rw [if_pos (by omega)]
          omega)
      omega
    · have := ih m f (fun k hk => by
        obtain ⟨j, hj, e⟩ := h k hk
        have hjn : j ≠ n := fun z => by subst z; omega
        exact ⟨j, by omega, e⟩)
      omega
end
section
/-! one process's share of the relation, and how a read step moves it -/
def ws_Rds (w : Nat) (A : Nat → Int32) (r : Nat) : Prop := ∀ s, s < r → ∃ a, a ≤ w ∧ A s = nI a
def ws_Tab (n : Nat) (wr A M R : Nat → Int32) (r : Nat) : Prop := ∀ j, j < n → R j = ws_rd A n j r ∧ M j = nI (ws_mv wr A n j r)
def ws_View (w : Nat) (ew vw yv : Int32) : Prop := (ew = -6 ∧ vw = -6) ∨ ∃ e x : Nat, e ≤ w ∧ x ≤ w ∧ ew = nI e ∧ vw = nI x ∧ yv = nI x
def ws_WF (n : Nat) (wr A : Nat → Int32) (r : Nat) : Prop :=
  (∀ c, 2 ≤ c → c < r / n + 1 → ∃ j, j < n ∧ ws_mv wr A n j r = c) ∧
  (∀ j, j < n → j < r → (ws_mv wr A n j r = 0 → ws_cnt wr j (ws_rd A n j r).toNatClampNeg = ws_cnt wr j (A j).toNatClampNeg) ∧ (ws_mv wr A n j r ≠ 0 → ws_cnt wr j (A j).toNatClampNeg < ws_cnt wr j (ws_rd A n j r).toNatClampNeg))
def ws_Go (n : Nat) (wr A : Nat → Int32) (co nx lc : Int32) (F : Nat → Int32) (r : Nat) : Prop :=
  co = nI (r / n + 1) ∧ nx = nI (r % n) ∧ (n ≤ r → lc = A (r / n * n - 1)) ∧ (∀ j, j < n → j < r → F j = nI (ws_cnt wr j (A j).toNatClampNeg)) ∧ ws_WF n wr A r
def ws_P (n w : Nat) (wr A : Nat → Int32) (rd ph ew vw yv co nx lc : Int32) (M F R : Nat → Int32) : Prop :=
  ∃ r t : Nat, r ≤ 64 ∧ t < 4 ∧ rd = nI r ∧ ph = nI t ∧ ws_Rds w A r ∧ ws_Tab n wr A M R r ∧ ws_View w ew vw yv ∧ (t = 3 → ¬ ew = -6) ∧ (t = 1 ∨ t = 2 → ws_Go n wr A co nx lc F r)
theorem ws_Rds_c {w : Nat} {A : Nat → Int32} {r s : Nat} (hw : w ≤ 128) (h : ws_Rds w A r) (hs : s < r) : (A s).toNatClampNeg ≤ w ∧ A s = nI (A s).toNatClampNeg := by
  obtain ⟨a, ha, e⟩ := h s hs
  rw [e, nI_clamp (by omega)]
  exact ⟨ha, rfl⟩
theorem ws_bound {n : Nat} {wr A : Nat → Int32} {r : Nat} (h2 : 2 ≤ n) (h6 : n ≤ 6) (h : ws_WF n wr A r) : r < 48 := by
  have := ws_pig n (r / n - 1) (fun j => ws_mv wr A n j r - 2) (fun k hk => by
    obtain ⟨j, hj, e⟩ := h.1 (k + 2) (by omega) (by omega)
    exact ⟨j, hj, by show ws_mv wr A n j r - 2 = k; omega⟩)
  exact ws_dm4 h2 h6 r (by omega)
theorem ws_neg6 (a : Nat) (h : a < 2 ^ 31) : ¬ nI a = -6 := by
  intro z
  have h1 := congrArg Int32.toInt z
  rw [nI_toInt h, show (-6 : Int32).toInt = -6 from by decide] at h1
  omega
/-- what a process is told does not change by what happens elsewhere -/
theorem ws_P_ext {n w w' : Nat} {wr wr' A A' : Nat → Int32} {rd ph ew vw yv co nx lc : Int32} {M F R M' F' R' : Nat → Int32} (hw : w ≤ w') (hw' : w ≤ 128) (hn : n ≤ 6)
    (hc : ∀ j v, v ≤ w → ws_cnt wr' j v = ws_cnt wr j v) (hA : ∀ s, s < 64 → A' s = A s) (hM : ∀ j, j < 6 → M' j = M j) (hF : ∀ j, j < 6 → F' j = F j) (hR : ∀ j, j < 6 → R' j = R j)
    (h : ws_P n w wr A rd ph ew vw yv co nx lc M F R) : ws_P n w' wr' A' rd ph ew vw yv co nx lc M' F' R' := by
  obtain ⟨r, t, hr, ht, er, et, h1, h2, h3, h4, h5⟩ := h
  have hcA : ∀ j s, s < r → ws_cnt wr' j (A' s).toNatClampNeg = ws_cnt wr j (A s).toNatClampNeg := fun j s hs => by
    rw [hA s (by omega)]
    exact hc j _ (ws_Rds_c hw' h1 hs).1
  have hmv : ∀ j, ws_mv wr' A' n j r = ws_mv wr A n j r := fun j => ws_mv_ext n j r (hcA j)
  have hrd : ∀ j, ws_rd A' n j r = ws_rd A n j r := fun j => ws_rd_ext n j r (fun s hs => hA s (by omega))
  refine ⟨r, t, hr, ht, er, et, ?_, ?_, ?_, h4, ?_⟩
  · intro s hs
    obtain ⟨a, ha, e⟩ := h1 s hs
    exact ⟨a, by omega, by rw [hA s (by omega)]; exact e⟩
  · intro j hj
    rw [hR j (by omega), hM j (by omega), hmv, hrd]
    exact h2 j hj
  · rcases h3 with h | ⟨e, x, he, hx, h⟩
    · exact Or.inl h
    · exact Or.inr ⟨e, x, by omega, by omega, h⟩
  · intro z
    obtain ⟨g1, g2, g3, g4, g5, g6⟩ := h5 z
    refine ⟨g1, g2, ?_, ?_, ?_, ?_⟩
    · intro hnr
      have hp : r / n * n ≤ r := Nat.div_mul_le_self r n
      have hp2 : 0 < r ∨ n = 0 := by omega
      rw [g3 hnr]
      by_cases h0 : r / n * n - 1 < 64
      · exact (hA _ h0).symm
      · omega
    · intro j hj hjr
      rw [hF j (by omega), hcA j j hjr]
      exact g4 j hj hjr
    · intro c c1 c2
      obtain ⟨j, hj, e⟩ := g5 c c1 c2
      exact ⟨j, hj, by rw [hmv]; exact e⟩
    · intro j hj hjr
      rw [hmv, hrd, hcA j j hjr]
      obtain ⟨s, hs, es⟩ := ws_rd_some A n j hj r hjr
      rw [hc j (ws_rd A n j r).toNatClampNeg (by rw [es]; exact (ws_Rds_c hw' h1 hs).1)]
      exact g6 j hj hjr
section
variable {n w r : Nat} {wr A : Nat → Int32}
theorem ws_A_old (s : Nat) (hs : s < r) : upd A r (nI w) s = A s := pk_un (show s ≠ r by omega)
theorem ws_rd_old (j : Nat) : ws_rd (upd A r (nI w)) n j r = ws_rd A n j r := ws_rd_ext n j r (fun s hs => ws_A_old s hs)
theorem ws_mv_old (j : Nat) : ws_mv wr (upd A r (nI w)) n j r = ws_mv wr A n j r := ws_mv_ext n j r (fun s hs => by rw [ws_A_old s hs])
theorem ws_rd_new (j : Nat) : ws_rd (upd A r (nI w)) n j (r + 1) = if r % n = j then nI w else ws_rd A n j r := by
  rw [ws_rd_s, ws_rd_old, pk_us]
theorem ws_mv_new (j : Nat) (hn : 0 < n) (hw : w < 2 ^ 31) : ws_mv wr (upd A r (nI w)) n j (r + 1) = if n ≤ r ∧ r % n = j ∧ ws_cnt wr j (A (r - n)).toNatClampNeg < ws_cnt wr j w then r / n + 1 else ws_mv wr A n j r := by
  rw [ws_mv_s, ws_mv_old, pk_us, nI_clamp hw]
  by_cases h : n ≤ r
  · rw [ws_A_old (r - n) (by omega)]
  · rw [if_neg (fun z => h z.1), if_neg (fun z => h z.1)]
theorem ws_Rds_new (h : ws_Rds w A r) : ws_Rds w (upd A r (nI w)) (r + 1) := by
  intro s hs
  by_cases e : s = r
  · subst e
    exact ⟨w, Nat.le_refl w, pk_us⟩
  · rw [pk_un e]
    exact h s (by omega)
/-- the wait-free part, one read further, the reading not ended by a second move -/
theorem ws_WF_new (h2 : 2 ≤ n) (h6 : n ≤ 6) (hw : w ≤ 128) (hR : ws_Rds w A r) (h : ws_WF n wr A r)
    (hne : n ≤ r → ws_cnt wr (r % n) w < ws_cnt wr (r % n) (A (r % n)).toNatClampNeg + 2)
    (hd : r % n + 1 = n → n ≤ r → ∃ i, i < n ∧ ws_mv wr (upd A r (nI w)) n i (r + 1) = r / n + 1) : ws_WF n wr (upd A r (nI w)) (r + 1) := by
  have hml := ws_ml h2 r
  have hm3 := ws_dm3 h2 h6 r
  have key : ∀ i c, i < n → 2 ≤ c → ws_mv wr A n i r = c → ws_mv wr (upd A r (nI w)) n i (r + 1) = c := by
    intro i c hi hc e
    rw [ws_mv_new i (by omega) (by omega)]
    by_cases z : n ≤ r ∧ r % n = i ∧ ws_cnt wr i (A (r - n)).toNatClampNeg < ws_cnt wr i w
    · obtain ⟨z1, z2, z3⟩ := z
      have b := (h.2 i hi (by omega)).2 (by omega)
      have pv := ws_rd_prev h2 h6 A r z1
      have en := hne z1
      rw [z2] at pv en
      rw [pv] at b
      omega
    · rw [if_neg z]
      exact e
  refine ⟨?_, ?_⟩
  · intro c c1 c2
    by_cases hb : r % n + 1 < n
    · rw [(ws_dm1 h2 h6 r hb).1] at c2
      obtain ⟨i, hi, e⟩ := h.1 c c1 c2
      exact ⟨i, hi, key i c hi c1 e⟩
    · rw [(ws_dm2 h2 h6 r (by omega)).1] at c2
      by_cases hc : c < r / n + 1
      · obtain ⟨i, hi, e⟩ := h.1 c c1 hc
        exact ⟨i, hi, key i c hi c1 e⟩
      · have hnr : n ≤ r := by
          by_cases hq : n ≤ r
          · exact hq
          · have := (hm3.1 (by omega)).1
            omega
        obtain ⟨i, hi, e⟩ := hd (by omega) hnr
        exact ⟨i, hi, by omega⟩
  · intro j hj hjr
    rw [ws_rd_new, ws_mv_new j (by omega) (by omega)]
    by_cases e : r % n = j
    · rw [if_pos e, nI_clamp (by omega)]
      by_cases hnr : n ≤ r
      · have hjlt : j < r := by omega
        have o := h.2 j hj hjlt
        have pv := ws_rd_prev h2 h6 A r hnr
        rw [e] at pv
        rw [pv] at o
        rw [ws_A_old j hjlt]
        have mon := ws_cnt_mon wr j (ws_Rds_c hw hR (show r - n < r by omega)).1
        by_cases q : ws_cnt wr j (A (r - n)).toNatClampNeg < ws_cnt wr j w
        · rw [if_pos ⟨hnr, e, q⟩]
          refine ⟨fun z => by omega, fun _ => ?_⟩
          by_cases m0 : ws_mv wr A n j r = 0
          · have := o.1 m0
            omega
          · have := o.2 m0
            omega
        · rw [if_neg (fun z => q z.2.2)]
          refine ⟨fun z => ?_, fun z => ?_⟩
          · have := o.1 z
            omega
          · have := o.2 z
            omega
      · rw [if_neg (fun z => hnr z.1), ws_mv_0 wr A n j r (by omega)]
        have ej : j = r := by
          have := (hm3.1 (by omega)).2
          omega
        rw [ej, pk_us, nI_clamp (by omega)]
        exact ⟨fun _ => rfl, fun z => absurd rfl z⟩
    · rw [if_neg e, if_neg (fun z => e z.2.1)]
      have hjr2 : j < r := by
        by_cases q : j = r
        · exact absurd (by rw [← q]; exact Nat.mod_eq_of_lt hj) e
        · omega
      rw [ws_A_old j hjr2]
      exact h.2 j hj hjr2
end
end
section
/-! a read step in one process's share of the relation: the tables, and the three ways on -/
theorem ws_loc (f : Nat → Int32) (b k : Nat) (x : Int32) : (fun s => upd f (b + k) x (b + s)) = upd (fun s => f (b + s)) k x := by
  funext s
  by_cases e : s = k
  · subst e
    rw [pk_us, pk_us]
  · rw [pk_un e, pk_un (show b + s ≠ b + k by omega)]
theorem ws_o6 {p q j j' : Nat} (h : q ≠ p) (hj : j < 6) (hj' : j' < 6) : q * 6 + j' ≠ p * 6 + j := by omega
theorem ws_o64 {p q r s : Nat} (h : q ≠ p) (hj : r < 64) (hj' : s < 64) : q * 64 + s ≠ p * 64 + r := by omega
def ws_MN (n w r : Nat) (wr A M : Nat → Int32) : Nat → Int32 := if n ≤ r ∧ ws_cnt wr (r % n) (A (r - n)).toNatClampNeg < ws_cnt wr (r % n) w then upd M (r % n) (nI (r / n + 1)) else M
def ws_FN (n w r : Nat) (wr F : Nat → Int32) : Nat → Int32 := if r < n then upd F (r % n) (nI (ws_cnt wr (r % n) w)) else F
section
variable {n w r : Nat} {wr A M F R : Nat → Int32}
theorem ws_Tab_new (h2 : 2 ≤ n) (hw : w ≤ 128) (h : ws_Tab n wr A M R r) : ws_Tab n wr (upd A r (nI w)) (ws_MN n w r wr A M) (upd R (r % n) (nI w)) (r + 1) := by
  intro j hj
  rw [ws_rd_new, ws_mv_new j (by omega) (by omega)]
  obtain ⟨e1, e2⟩ := h j hj
  refine ⟨?_, ?_⟩
  · by_cases e : r % n = j
    · rw [if_pos e, e, pk_us]
    · rw [if_neg e, pk_un (fun z => e z.symm)]
      exact e1
  · unfold ws_MN
    by_cases e : r % n = j
    · subst e
      by_cases z : n ≤ r ∧ ws_cnt wr (r % n) (A (r - n)).toNatClampNeg < ws_cnt wr (r % n) w
      · rw [if_pos z, if_pos ⟨z.1, rfl, z.2⟩, pk_us]
      · rw [if_neg z, if_neg (fun y => z ⟨y.1, y.2.2⟩)]
        exact e2
    · rw [if_neg (show ¬ (n ≤ r ∧ r % n = j ∧ ws_cnt wr j (A (r - n)).toNatClampNeg < ws_cnt wr j w) from fun y => e y.2.1)]
      split
      · rw [pk_un (fun z => e z.symm)]
        exact e2
      · exact e2
theorem ws_F_new (h2 : 2 ≤ n) (h6 : n ≤ 6) (hw : w ≤ 128) (h : ∀ j, j < n → j < r → F j = nI (ws_cnt wr j (A j).toNatClampNeg)) :
    ∀ j, j < n → j < r + 1 → ws_FN n w r wr F j = nI (ws_cnt wr j (upd A r (nI w) j).toNatClampNeg) := by
  intro j hj hjr
  unfold ws_FN
  by_cases hr : r < n
  · rw [if_pos hr, ((ws_dm3 h2 h6 r).1 hr).2]
    by_cases e : j = r
    · subst e
      rw [pk_us, pk_us, nI_clamp (by omega)]
    · rw [pk_un e, pk_un e]
      exact h j hj (by omega)
  · rw [if_neg hr, pk_un (show j ≠ r by omega)]
    exact h j hj (by omega)
theorem ws_Go_B (h2 : 2 ≤ n) (h6 : n ≤ 6) (hw : w ≤ 128) (hR : ws_Rds w A r) {co nx lc : Int32} (h : ws_Go n wr A co nx lc F r)
    (hne : n ≤ r → ws_cnt wr (r % n) w < ws_cnt wr (r % n) (A (r % n)).toNatClampNeg + 2) (hb : r % n + 1 < n) :
    ws_Go n wr (upd A r (nI w)) co (nI (r % n + 1)) lc (ws_FN n w r wr F) (r + 1) := by
  obtain ⟨g1, g2, g3, g4, g5⟩ := h
  obtain ⟨d1, d2⟩ := ws_dm1 h2 h6 r hb
  refine ⟨by rw [d1]; exact g1, by rw [d2], ?_, ws_F_new h2 h6 hw g4, ws_WF_new h2 h6 hw hR g5 hne (fun z => by omega)⟩
  intro hn
  have d3 := ws_dm3 h2 h6 r
  have hnr : n ≤ r := by
    by_cases q : n ≤ r
    · exact q
    · have := (d3.1 (by omega)).2
      omega
  have d4 := d3.2.2.1 hnr
  have d5 := d3.2.2.2
  rw [d1, g3 hnr, pk_un (show r / n * n - 1 ≠ r by omega)]
theorem ws_Go_D (h2 : 2 ≤ n) (h6 : n ≤ 6) (hw : w ≤ 128) (hR : ws_Rds w A r) {co nx lc : Int32} (h : ws_Go n wr A co nx lc F r)
    (hne : n ≤ r → ws_cnt wr (r % n) w < ws_cnt wr (r % n) (A (r % n)).toNatClampNeg + 2) (hb : r % n + 1 = n)
    (hd : n ≤ r → ∃ i, i < n ∧ ws_mv wr (upd A r (nI w)) n i (r + 1) = r / n + 1) :
    ws_Go n wr (upd A r (nI w)) (nI (r / n + 2)) (nI 0) (nI w) (ws_FN n w r wr F) (r + 1) := by
  obtain ⟨g1, g2, g3, g4, g5⟩ := h
  obtain ⟨d1, d2, d3, d4⟩ := ws_dm2 h2 h6 r hb
  refine ⟨by rw [d1], by rw [d2], ?_, ws_F_new h2 h6 hw g4, ws_WF_new h2 h6 hw hR g5 hne (fun _ => hd)⟩
  intro hn
  rw [d3, pk_us]
theorem ws_P_go (h2 : 2 ≤ n) (hw : w ≤ 128) (hr : r < 64) {t : Nat} (ht : t = 1 ∨ t = 2) (hR : ws_Rds w A r) (hT : ws_Tab n wr A M R r) {ew vw yv co nx lc : Int32} (hV : ws_View w ew vw yv)
    (hg : ws_Go n wr (upd A r (nI w)) co nx lc (ws_FN n w r wr F) (r + 1)) :
    ws_P n w wr (upd A r (nI w)) (nI (r + 1)) (nI t) ew vw yv co nx lc (ws_MN n w r wr A M) (ws_FN n w r wr F) (upd R (r % n) (nI w)) :=
  ⟨r + 1, t, by omega, by omega, rfl, rfl, ws_Rds_new hR, ws_Tab_new h2 hw hT, hV, fun z => by omega, fun _ => hg⟩
theorem ws_P_end (h2 : 2 ≤ n) (hw : w ≤ 128) (hr : r < 64) {t : Nat} (ht : t = 0 ∨ t = 3) (hR : ws_Rds w A r) (hT : ws_Tab n wr A M R r) {x : Nat} (hx : x ≤ w) (co nx lc : Int32) :
    ws_P n w wr (upd A r (nI w)) (nI (r + 1)) (nI t) (nI w) (nI x) (nI x) co nx lc (ws_MN n w r wr A M) (ws_FN n w r wr F) (upd R (r % n) (nI w)) :=
  ⟨r + 1, t, by omega, by omega, rfl, rfl, ws_Rds_new hR, ws_Tab_new h2 hw hT, Or.inr ⟨w, x, Nat.le_refl w, hx, rfl, rfl, rfl⟩, fun _ => ws_neg6 w (by omega), fun z => by omega⟩
end
theorem ws_P_new {n w : Nat} {wr A : Nat → Int32} {yv lc : Int32} {M F R : Nat → Int32} {t : Nat} (h2 : 2 ≤ n) (ht : t = 1 ∨ t = 2)
    (hM : ∀ j, j < 6 → M j = 0) (hR : ∀ j, j < 6 → R j = -6) (h6 : n ≤ 6) : ws_P n w wr A (nI 0) (nI t) (-6) (-6) yv (nI 1) (nI 0) lc M F R := by
  refine ⟨0, t, by omega, by omega, rfl, rfl, fun s hs => by omega, ?_, Or.inl ⟨rfl, rfl⟩, fun z => by omega, fun _ => ?_⟩
  · intro j hj
    exact ⟨hR j (by omega), hM j (by omega)⟩
  · refine ⟨by rw [Nat.zero_div], by rw [Nat.zero_mod], fun z => by omega, fun j _ z => by omega, ?_, fun j _ z => by omega⟩
    intro c c1 c2
    rw [Nat.zero_div] at c2
    omega
end
section
/-! a write step, a begin and the start, in the pure picture -/
def ws_row (f : Nat → Int32) (b k : Nat) : Nat → Int32 := fun x => if b + 6 ≤ x ∧ x < b + 6 + k then f (x - 6) else f x
def ws_fill (f : Nat → Int32) (b k : Nat) (c : Int32) : Nat → Int32 := fun x => if b ≤ x ∧ x < b + k then c else f x
theorem ws_row_0 (f : Nat → Int32) (b : Nat) : ws_row f b 0 = f := by
  funext x
  exact if_neg (by omega)
theorem ws_row_lo (f : Nat → Int32) (b k x : Nat) (h : x < b + 6) : ws_row f b k x = f x := if_neg (by omega)
theorem ws_row_s (f : Nat → Int32) (b k : Nat) (hk : k < 6) : upd (ws_row f b k) (b + 6 + k) (ws_row f b k (b + k)) = ws_row f b (k + 1) := by
  funext x
  rw [ws_row_lo f b k (b + k) (by omega)]
  by_cases e : x = b + 6 + k
  · subst e
    rw [pk_us]
    show _ = if _ then _ else _
    rw [if_pos (by omega), show b + 6 + k - 6 = b + k by omega]
  · rw [pk_un e]
    show (if _ then _ else _) = if _ then _ else _
    by_cases z : b + 6 ≤ x ∧ x < b + 6 + k
    · rw [if_pos z, if_pos (by omega)]
    · rw [if_neg z, if_neg (by omega)]
theorem ws_row_hi (f : Nat → Int32) (b j : Nat) (h : j < 6) : ws_row f b 6 (b + 6 + j) = f (b + j) := by
  show (if _ then _ else _) = _
  rw [if_pos (by omega), show b + 6 + j - 6 = b + j by omega]
theorem ws_fill_0 (f : Nat → Int32) (b : Nat) (c : Int32) : ws_fill f b 0 c = f := by
  funext x
  exact if_neg (by omega)
theorem ws_fill_s (f : Nat → Int32) (b k : Nat) (c : Int32) : upd (ws_fill f b k c) (b + k) c = ws_fill f b (k + 1) c := by
  funext x
  by_cases e : x = b + k
  · subst e
    rw [pk_us]
    show _ = if _ then _ else _
    rw [if_pos (by omega)]
  · rw [pk_un e]
    show (if _ then _ else _) = if _ then _ else _
    by_cases z : b ≤ x ∧ x < b + k
    · rw [if_pos z, if_pos (by omega)]
    · rw [if_neg z, if_neg (by omega)]
theorem ws_fill_in (f : Nat → Int32) (b k : Nat) (c : Int32) (j : Nat) (h : j < k) : ws_fill f b k c (b + j) = c := if_pos (by omega)
theorem ws_fill_out (f : Nat → Int32) (b k : Nat) (c : Int32) (x : Nat) (h : x < b ∨ b + k ≤ x) : ws_fill f b k c x = f x := if_neg (by omega)
def ws_V (w : Nat) (vV vC wr wn : Nat → Int32) : Prop := ∀ v j, v ≤ w → j < 6 → vC (v * 6 + j) = nI (ws_cnt wr j v) ∧ vV (v * 6 + j) = ws_last wr wn j v
def ws_H (n w : Nat) (hV wr ca : Nat → Int32) : Prop := ∀ j, j < n → hV j = ws_last wr ca j w ∧ ∃ h, h ≤ w ∧ hV j = nI h
theorem ws_V_new {w p : Nat} {vV vC wr wn : Nat → Int32} {x : Int32} (hp : p < 6) (h : ws_V w vV vC wr wn) :
    ws_V (w + 1) (upd (ws_row vV (w * 6) 6) (w * 6 + 6 + p) x) (upd (ws_row vC (w * 6) 6) (w * 6 + 6 + p) (nI (ws_cnt wr p w + 1))) (upd wr w (nI p)) (upd wn w x) := by
  intro v j hv hj
  by_cases e : v = w + 1
  · subst e
    obtain ⟨h1, h2⟩ := h w j (Nat.le_refl w) hj
    rw [ws_cnt_new wr w p j (by omega) (by omega), ws_last_new wr wn w p j x (by omega) (by omega), show (w + 1) * 6 + j = w * 6 + 6 + j by omega]
    by_cases z : p = j
    · subst z
      rw [pk_us, pk_us, if_pos rfl, if_pos rfl]
      exact ⟨rfl, rfl⟩
    · rw [pk_un (show w * 6 + 6 + j ≠ w * 6 + 6 + p by omega), pk_un (show w * 6 + 6 + j ≠ w * 6 + 6 + p by omega), if_neg z, if_neg z, ws_row_hi _ _ _ hj, ws_row_hi _ _ _ hj]
      exact ⟨h1, h2⟩
  · obtain ⟨h1, h2⟩ := h v j (by omega) hj
    rw [ws_cnt_upd wr w (nI p) j v (by omega), ws_last_upd wr wn w (nI p) x j v (by omega), pk_un (show v * 6 + j ≠ w * 6 + 6 + p by omega), pk_un (show v * 6 + j ≠ w * 6 + 6 + p by omega), ws_row_lo _ _ _ _ (by omega), ws_row_lo _ _ _ _ (by omega)]
    exact ⟨h1, h2⟩
theorem ws_H_new {n w p x : Nat} {hV wr ca : Nat → Int32} (hp : p < 6) (hn : n ≤ 6) (hx : x ≤ w) (h : ws_H n w hV wr ca) :
    ws_H n (w + 1) (upd hV p (nI x)) (upd wr w (nI p)) (upd ca w (nI x)) := by
  intro j hj
  obtain ⟨h1, y, hy, e⟩ := h j hj
  rw [ws_last_new wr ca w p j (nI x) (by omega) (by omega)]
  by_cases z : p = j
  · subst z
    rw [if_pos rfl, pk_us]
    exact ⟨rfl, x, by omega, rfl⟩
  · rw [if_neg z, pk_un (fun q => z q.symm)]
    exact ⟨h1, y, by omega, e⟩
theorem ws_P_idle {n w : Nat} {wr A : Nat → Int32} {rd ph ew vw yv co nx lc : Int32} {M F R : Nat → Int32} (h : ws_P n w wr A rd ph ew vw yv co nx lc M F R) : ws_P n w wr A rd (nI 0) ew vw yv co nx lc M F R := by
  obtain ⟨r, t, hr, ht, er, et, h1, h2, h3, h4, h5⟩ := h
  exact ⟨r, 0, hr, by omega, er, rfl, h1, h2, h3, fun z => by omega, fun z => by omega⟩
theorem ws_P_init {n w : Nat} {wr A : Nat → Int32} {yv co nx lc : Int32} {M F R : Nat → Int32}
    (hM : ∀ j, j < 6 → M j = 0) (hR : ∀ j, j < 6 → R j = -6) (h6 : n ≤ 6) : ws_P n w wr A (nI 0) (nI 0) (-6) (-6) yv co nx lc M F R := by
  refine ⟨0, 0, by omega, by omega, rfl, rfl, fun s hs => by omega, ?_, Or.inl ⟨rfl, rfl⟩, fun z => by omega, fun z => by omega⟩
  intro j hj
  exact ⟨hR j (by omega), hM j (by omega)⟩
theorem ws_V_init : ws_V 0 (fun _ => 0) (fun _ => 0) (fun _ => 0) (fun _ => 0) := by
  intro v j hv hj
  have e : v = 0 := by omega
  subst e
  exact ⟨rfl, rfl⟩
theorem ws_H_init (n : Nat) : ws_H n 0 (fun _ => 0) (fun _ => 0) (fun _ => 0) := by
  intro j hj
  exact ⟨rfl, 0, Nat.le_refl 0, rfl⟩
end
section
/-! the component's own methods, each with a general post -/
theorem ws_ix (p j : Nat) : nI p * 6 + nI j = nI (p * 6 + j) := by
  rw [show (6 : Int32) = nI 6 from rfl, pk_mul, nI_add]
theorem ws_u {p : Nat} (hp : p < 774) (f : Nat → Int32) (x : Int32) : upd f (nI p).toNatClampNeg x = upd f p x := by rw [nI_clamp (by omega)]
theorem ws_r {p : Nat} (hp : p < 774) (f : Nat → Int32) : f (nI p).toNatClampNeg = f p := by rw [nI_clamp (by omega)]
theorem ws_in {p k : Nat} (hp : p < k) (hk : k < 2 ^ 31 := by decide) : vp_in (nI p) k := vp_in_nI hp hk
theorem wx_pair {post : Int32 → Prop} {p j : Nat} (h : post (nI (p * 6 + j))) : wpX_pair post (nI p) (nI j) := by
  unfold wpX_pair
  rw [ws_ix]
  exact h
theorem wx_cell {post : Int32 → Prop} {p j : Nat} (h : post (nI (p * 6 + j))) : wpX_cell post (nI p) (nI j) := by
  unfold wpX_cell
  rw [ws_ix]
  exact h
section
variable {n L w ub : Nat} {vV vC hV H ph st it sw ew lb vw co nx lc mc fc rv : Nat → Int32}
theorem wx_in {post : Int32 → Prop} {p : Nat} (hp : p < n) (hn : n ≤ 6) (h : post 1) : wpX_inRange post ((nI n), (nI L), (nI w), (nI ub), vV, vC, hV, H, ph, st, it, sw, ew, lb, vw, co, nx, lc, mc, fc, rv) (nI p) := br_f (nI_pos (by omega)) (br_f (nI_ge hp (by omega)) h)
theorem wx_out {post : Int32 → Prop} {x : Int32} (hx : x < 0 ∨ nI n ≤ x) (h : post 0) : wpX_inRange post ((nI n), (nI L), (nI w), (nI ub), vV, vC, hV, H, ph, st, it, sw, ew, lb, vw, co, nx, lc, mc, fc, rv) x := by
  by_cases z : x < 0
  · exact br_t z h
  · exact br_f z (br_t (hx.resolve_left z) h)
theorem wx_forget_lp {post : SX → Prop} {p : Nat} (hp : p < 6) : ∀ d k : Nat, k + d = 6 → post ((nI n), (nI L), (nI w), (nI ub), vV, vC, hV, H, ph, st, it, sw, ew, lb, vw, co, nx, lc, (ws_fill mc (p * 6) 6 0), fc, (ws_fill rv (p * 6) 6 (-6))) →
    wX_forgetOperation_47 post (nI p) (nI n) (nI L) (nI w) (nI ub) (d + 1) (nI k) vV vC hV H ph st it sw ew lb vw co nx lc (ws_fill mc (p * 6) k 0) fc (ws_fill rv (p * 6) k (-6)) := by
  intro d
  induction d with
  | zero =>
    intro k hk h
    have e : k = 6 := by omega
    subst e
    exact br_t (nI_le (a := 6) (b := 6) (by omega) (by omega)) h
  | succ d ih =>
    intro k hk h
    refine br_f (nI_ge (a := k) (b := 6) (by omega) (by omega)) ?_
    refine wx_pair ⟨ws_in (by omega), nm_r (e' := ws_fill mc (p * 6) (k + 1) 0) (by rw [ws_u (by omega)]; exact ws_fill_s mc (p * 6) k 0) ?_⟩
    refine wx_pair ⟨ws_in (by omega), nm_r (e' := ws_fill rv (p * 6) (k + 1) (-6)) (by rw [ws_u (by omega)]; exact ws_fill_s rv (p * 6) k (-6)) ?_⟩
    refine nm_r (nI_1 k) ?_
    exact ih (k + 1) (by omega) h
theorem wx_forget {post : SX → Prop} {p : Nat} (hp : p < 6) (h : post ((nI n), (nI L), (nI w), (nI ub), vV, vC, hV, H, ph, (upd st p 0), it, sw, (upd ew p (-6)), (upd lb p (-6)), (upd vw p (-6)), (upd co p 1), (upd nx p 0), lc, (ws_fill mc (p * 6) 6 0), fc, (ws_fill rv (p * 6) 6 (-6)))) : wpX_forgetOperation post ((nI n), (nI L), (nI w), (nI ub), vV, vC, hV, H, ph, st, it, sw, ew, lb, vw, co, nx, lc, mc, fc, rv) (nI p) := by
  have i : vp_in (nI p) 6 := ws_in hp
  refine ⟨i, nm_r (ws_u (by omega) st 0) ⟨i, nm_r (ws_u (by omega) ew (-6)) ⟨i, nm_r (ws_u (by omega) lb (-6)) ⟨i, nm_r (ws_u (by omega) vw (-6)) ⟨i, nm_r (ws_u (by omega) co 1) ⟨i, nm_r (ws_u (by omega) nx 0) ⟨7, ?_⟩⟩⟩⟩⟩⟩⟩
  have g := wx_forget_lp (post := post) hp 6 0 rfl h
  rw [ws_fill_0, ws_fill_0] at g
  exact g
theorem wx_begin {post : SX → Prop} {p : Nat} {t : Int32} (hp : p < 6) (h : post ((nI n), (nI L), (nI w), (nI ub), vV, vC, hV, H, (upd ph p t), (upd st p 0), it, (upd sw p (nI w)), (upd ew p (-6)), (upd lb p (-6)), (upd vw p (-6)), (upd co p 1), (upd nx p 0), lc, (ws_fill mc (p * 6) 6 0), fc, (ws_fill rv (p * 6) 6 (-6)))) : wpX_begin post ((nI n), (nI L), (nI w), (nI ub), vV, vC, hV, H, ph, st, it, sw, ew, lb, vw, co, nx, lc, mc, fc, rv) (nI p) t := by
  have i : vp_in (nI p) 6 := ws_in hp
  unfold wpX_begin
  refine wx_forget hp ?_
  exact ⟨i, nm_r (ws_u (by omega) ph t) ⟨i, nm_r (ws_u (by omega) sw (nI w)) h⟩⟩
theorem wx_write_lp {post : SX → Prop} {p : Nat} (hp : p < 6) (hw : w < 128) : ∀ d k : Nat, k + d = 6 →
    post ((nI n), (nI L), (nI (w + 1)), (nI ub), (upd (ws_row vV (w * 6) 6) (w * 6 + 6 + p) (it p)), (upd (ws_row vC (w * 6) 6) (w * 6 + 6 + p) (ws_row vC (w * 6) 6 (w * 6 + 6 + p) + 1)), (upd hV p (vw p)), H, (upd ph p 0), st, it, sw, ew, lb, vw, co, nx, lc, mc, fc, rv) →
    wX_write_17 post (nI p) (nI (w * 6)) (nI (w * 6 + 6)) (nI n) (nI L) (nI w) (nI ub) (d + 1) (nI k) (ws_row vV (w * 6) k) (ws_row vC (w * 6) k) hV H ph st it sw ew lb vw co nx lc mc fc rv := by
  intro d
  have i : vp_in (nI p) 6 := ws_in hp
  induction d with
  | zero =>
    intro k hk h
    have e : k = 6 := by omega
    subst e
    have ii : vp_in (nI (w * 6 + 6) + nI p) 774 := by rw [nI_add]; exact ws_in (by omega)
    refine br_t (nI_le (a := 6) (b := 6) (by omega) (by omega)) ⟨i, ⟨ii, ?_⟩⟩
    refine nm_r (e' := upd (ws_row vV (w * 6) 6) (w * 6 + 6 + p) (it p)) (by rw [nI_add, nI_clamp (by omega), nI_clamp (by omega)]) ⟨ii, ⟨ii, ?_⟩⟩
    refine nm_r (e' := upd (ws_row vC (w * 6) 6) (w * 6 + 6 + p) (ws_row vC (w * 6) 6 (w * 6 + 6 + p) + 1)) (by rw [nI_add, nI_clamp (by omega)]) ⟨i, ⟨i, ?_⟩⟩
    refine nm_r (e' := upd hV p (vw p)) (by rw [nI_clamp (by omega)]) ?_
    refine nm_r (nI_1 w) ⟨i, ?_⟩
    exact nm_r (ws_u (by omega) ph 0) h
  | succ d ih =>
    intro k hk h
    have i1 : vp_in (nI (w * 6) + nI k) 774 := by rw [nI_add]; exact ws_in (by omega)
    have i2 : vp_in (nI (w * 6 + 6) + nI k) 774 := by rw [nI_add]; exact ws_in (by omega)
    refine br_f (nI_ge (a := k) (b := 6) (by omega) (by omega)) ⟨i1, ⟨i2, ?_⟩⟩
    refine nm_r (e' := ws_row vV (w * 6) (k + 1)) (by rw [nI_add, nI_add, nI_clamp (by omega), nI_clamp (by omega)]; exact ws_row_s vV (w * 6) k (by omega)) ⟨i1, ⟨i2, ?_⟩⟩
    refine nm_r (e' := ws_row vC (w * 6) (k + 1)) (by rw [nI_add, nI_add, nI_clamp (by omega), nI_clamp (by omega)]; exact ws_row_s vC (w * 6) k (by omega)) ?_
    refine nm_r (nI_1 k) ?_
    exact ih (k + 1) (by omega) h
theorem wx_write {post : SX → Prop} {p : Nat} (hp : p < 6) (hw : w < 128)
    (h : post ((nI n), (nI L), (nI (w + 1)), (nI ub), (upd (ws_row vV (w * 6) 6) (w * 6 + 6 + p) (it p)), (upd (ws_row vC (w * 6) 6) (w * 6 + 6 + p) (ws_row vC (w * 6) 6 (w * 6 + 6 + p) + 1)), (upd hV p (vw p)), H, (upd ph p 0), st, it, sw, ew, lb, vw, co, nx, lc, mc, fc, rv)) : wpX_write post ((nI n), (nI L), (nI w), (nI ub), vV, vC, hV, H, ph, st, it, sw, ew, lb, vw, co, nx, lc, mc, fc, rv) (nI p) := by
  unfold wpX_write
  refine wx_cell (p := w) (j := 0) ?_
  refine nm_r (e' := nI (w * 6 + 6)) (nI_add (w * 6) 6) ⟨7, ?_⟩
  have g := wx_write_lp (post := post) hp hw 6 0 rfl h
  rw [ws_row_0, ws_row_0] at g
  exact g
theorem wx_noteRead {post : SX → Prop} {p j a c : Nat} (hp : p < 6) (hj : j < 6) (hw : w ≤ 128) (ha : a ≤ 128) (hc : co p = nI c) (hc2 : c < 2 ^ 31)
    (hrv : c ≠ 1 → rv (p * 6 + j) = nI a)
    (h1 : c = 1 → post ((nI n), (nI L), (nI w), (nI ub), vV, vC, hV, H, ph, st, it, sw, ew, lb, vw, co, nx, lc, mc, (upd fc (p * 6 + j) (vC (w * 6 + j))), (upd rv (p * 6 + j) (nI w))))
    (h2 : c ≠ 1 → vC (w * 6 + j) ≤ vC (a * 6 + j) → post ((nI n), (nI L), (nI w), (nI ub), vV, vC, hV, H, ph, st, it, sw, ew, lb, vw, co, nx, lc, mc, fc, (upd rv (p * 6 + j) (nI w))))
    (h3 : c ≠ 1 → ¬ vC (w * 6 + j) ≤ vC (a * 6 + j) → post ((nI n), (nI L), (nI w), (nI ub), vV, vC, hV, H, ph, st, it, sw, ew, lb, vw, co, nx, lc, (upd mc (p * 6 + j) (nI c)), fc, (upd rv (p * 6 + j) (nI w)))) : wpX_noteRead post ((nI n), (nI L), (nI w), (nI ub), vV, vC, hV, H, ph, st, it, sw, ew, lb, vw, co, nx, lc, mc, fc, rv) (nI p) (nI j) := by
  have i36 : vp_in (nI (p * 6 + j)) 36 := ws_in (by omega)
  have ec : co (nI p).toNatClampNeg = 1 ↔ c = 1 := by
    rw [ws_r (by omega) co, hc]
    exact nI_eq (b := 1) hc2 (by decide)
  unfold wpX_noteRead
  refine wx_pair ?_
  refine wx_cell ⟨ws_in (by omega), nm_r (ws_r (by omega) vC) ⟨ws_in hp, ?_⟩⟩
  by_cases z : c = 1
  · exact br_t (ec.mpr z) ⟨i36, nm_r (ws_u (by omega) fc _) ⟨i36, nm_r (ws_u (by omega) rv _) (h1 z)⟩⟩
  · refine br_f (fun y => z (ec.mp y)) ⟨i36, ?_⟩
    rw [ws_r (by omega) rv, hrv z]
    refine wx_cell ⟨ws_in (by omega), ?_⟩
    rw [ws_r (by omega) vC]
    by_cases y : vC (w * 6 + j) ≤ vC (a * 6 + j)
    · exact br_t y ⟨i36, nm_r (ws_u (by omega) rv _) (h2 z y)⟩
    · exact br_f y ⟨ws_in hp, ⟨i36, nm_r (e' := upd mc (p * 6 + j) (nI c)) (by rw [ws_u (by omega), ws_r (by omega) co, hc]) ⟨i36, nm_r (ws_u (by omega) rv _) (h3 z y)⟩⟩⟩
theorem wx_movedTwice {post : Int32 → Prop} {p j : Nat} (hp : p < 6) (hj : j < 6) (hw : w ≤ 128) (h0 : vC (w * 6 + j) - fc (p * 6 + j) < 2 → post 0) (h1 : ¬ vC (w * 6 + j) - fc (p * 6 + j) < 2 → post 1) : wpX_movedTwice post ((nI n), (nI L), (nI w), (nI ub), vV, vC, hV, H, ph, st, it, sw, ew, lb, vw, co, nx, lc, mc, fc, rv) (nI p) (nI j) := by
  unfold wpX_movedTwice
  refine wx_cell ⟨ws_in (by omega), nm_r (ws_r (by omega) vC) ?_⟩
  refine wx_pair ⟨ws_in (by omega), ?_⟩
  rw [ws_r (by omega) fc]
  exact ⟨h0, h1⟩
theorem wx_endReading {post : SX → Prop} {p : Nat} {x y : Int32} (hp : p < 6)
    (h1 : ph p = 1 → post ((nI n), (nI L), (nI w), (nI ub), vV, vC, hV, H, (upd ph p 0), st, it, sw, (upd ew p (nI w)), (upd lb p y), (upd vw p x), co, nx, lc, mc, fc, rv))
    (h2 : ¬ ph p = 1 → post ((nI n), (nI L), (nI w), (nI ub), vV, vC, hV, H, (upd ph p 3), st, it, sw, (upd ew p (nI w)), (upd lb p y), (upd vw p x), co, nx, lc, mc, fc, rv)) : wpX_endReading post ((nI n), (nI L), (nI w), (nI ub), vV, vC, hV, H, ph, st, it, sw, ew, lb, vw, co, nx, lc, mc, fc, rv) (nI p) x y := by
  have i : vp_in (nI p) 6 := ws_in hp
  refine ⟨i, nm_r (ws_u (by omega) vw x) ⟨i, nm_r (ws_u (by omega) lb y) ⟨i, nm_r (ws_u (by omega) ew (nI w)) ⟨i, ?_⟩⟩⟩⟩
  rw [ws_r (by omega) ph]
  exact ⟨fun z => ⟨i, nm_r (ws_u (by omega) ph 0) (h1 z)⟩, fun z => ⟨i, nm_r (ws_u (by omega) ph 3) (h2 z)⟩⟩
theorem wx_clean_lp {post : Int32 → Prop} {p c : Nat} (hp : p < 6) (hn : n ≤ 6) (hc : co p = nI c) : ∀ d k : Nat, k + d = n →
    ((∃ i, k ≤ i ∧ i < n ∧ mc (p * 6 + i) = nI c) → post 0) → ((∀ i, k ≤ i → i < n → ¬ mc (p * 6 + i) = nI c) → post 1) → wX_collectWasClean_14 post (nI p) (nI n) (nI L) (nI w) (nI ub) vV vC hV H ph st it sw ew lb vw co nx lc mc fc rv (d + 1) (nI k) := by
  intro d
  induction d with
  | zero =>
    intro k hk h0 h1
    exact br_t (nI_le (by omega) (by omega)) (h1 (fun i a b => by omega))
  | succ d ih =>
    intro k hk h0 h1
    refine br_f (nI_ge (by omega) (by omega)) ?_
    refine wx_pair ⟨ws_in (by omega), ⟨ws_in hp, ?_⟩⟩
    rw [ws_r (by omega) mc, ws_r (by omega) co, hc]
    by_cases z : mc (p * 6 + k) = nI c
    · exact br_t z (h0 ⟨k, by omega, by omega, z⟩)
    · refine br_f z (nm_r (nI_1 k) ?_)
      refine ih (k + 1) (by omega) (fun g => ?_) (fun g => ?_)
      · obtain ⟨i, a, b, e⟩ := g
        exact h0 ⟨i, by omega, b, e⟩
      · refine h1 (fun i a b => ?_)
        by_cases q : i = k
        · rw [q]
          exact z
        · exact g i (by omega) b
theorem wx_clean {post : Int32 → Prop} {p c : Nat} (hp : p < 6) (hn : n ≤ 6) (hc : co p = nI c) (hc2 : c < 2 ^ 31)
    (h0 : (c = 1 ∨ ∃ i, i < n ∧ mc (p * 6 + i) = nI c) → post 0) (h1 : c ≠ 1 → (∀ i, i < n → ¬ mc (p * 6 + i) = nI c) → post 1) : wpX_collectWasClean post ((nI n), (nI L), (nI w), (nI ub), vV, vC, hV, H, ph, st, it, sw, ew, lb, vw, co, nx, lc, mc, fc, rv) (nI p) := by
  have ec : co (nI p).toNatClampNeg = 1 ↔ c = 1 := by
    rw [ws_r (by omega) co, hc]
    exact nI_eq (b := 1) hc2 (by decide)
  refine ⟨ws_in hp, ?_⟩
  by_cases z : c = 1
  · exact br_t (ec.mpr z) (h0 (Or.inl z))
  · refine br_f (fun y => z (ec.mp y)) ⟨n + 1, ?_⟩
    refine wx_clean_lp hp hn hc n 0 (by omega) (fun g => ?_) (fun g => ?_)
    · obtain ⟨i, _, b, e⟩ := g
      exact h0 (Or.inr ⟨i, b, e⟩)
    · exact h1 z (fun i b => g i (by omega) b)
theorem wx_next {post : SX → Prop} {p : Nat} (hp : p < 6) (h : post ((nI n), (nI L), (nI w), (nI ub), vV, vC, hV, H, ph, st, it, sw, ew, lb, vw, (upd co p (co p + 1)), (upd nx p 0), (upd lc p (nI w)), mc, fc, rv)) : wpX_startNextCollect post ((nI n), (nI L), (nI w), (nI ub), vV, vC, hV, H, ph, st, it, sw, ew, lb, vw, co, nx, lc, mc, fc, rv) (nI p) := by
  have i : vp_in (nI p) 6 := ws_in hp
  exact ⟨i, nm_r (ws_u (by omega) lc (nI w)) ⟨i, ⟨i, nm_r (e' := upd co p (co p + 1)) (by rw [nI_clamp (by omega)]) ⟨i, nm_r (ws_u (by omega) nx 0) h⟩⟩⟩⟩
end
end
section
/-! the reference's own methods, each with a general post -/
theorem ws_i64 (p j : Nat) : nI p * 64 + nI j = nI (p * 64 + j) := by
  rw [show (64 : Int32) = nI 64 from rfl, pk_mul, nI_add]
section
variable {n L w ub : Nat} {wr wn ca H ph st rd it sw ew lb yv ra : Nat → Int32}
theorem wy_in {post : Int32 → Prop} {p : Nat} (hp : p < n) (hn : n ≤ 6) (h : post 0) : wpY_outside post ((nI w), (nI n), (nI L), (nI ub), wr, wn, ca, H, ph, st, rd, it, sw, ew, lb, yv, ra) (nI p) := br_f (nI_pos (by omega)) (br_t (nI_lt hp (by omega)) h)
theorem wy_out {post : Int32 → Prop} {x : Int32} (hx : x < 0 ∨ nI n ≤ x) (h : post 1) : wpY_outside post ((nI w), (nI n), (nI L), (nI ub), wr, wn, ca, H, ph, st, rd, it, sw, ew, lb, yv, ra) x := by
  by_cases z : x < 0
  · exact br_t z h
  · exact br_f z (br_f (Int32.not_lt.mpr (hx.resolve_left z)) h)
theorem wy_countAt_lp {post : Int32 → Prop} {j v : Nat} (hv : v ≤ 128) : ∀ d k : Nat, k + d = v → post (nI (ws_cnt wr j v)) → wY_countAt_5 post (nI j) (nI v) (nI w) (nI n) (nI L) (nI ub) wr wn ca H ph st rd it sw ew lb yv ra (d + 1) (nI (ws_cnt wr j k)) (nI k) := by
  intro d
  induction d with
  | zero =>
    intro k hk h
    have e : k = v := by omega
    subst e
    exact br_t (nI_le (Nat.le_refl _) (by omega)) h
  | succ d ih =>
    intro k hk h
    refine br_f (nI_ge (by omega) (by omega)) (br_f (nI_ge (a := k) (b := 128) (by omega) (by omega)) ⟨ws_in (by omega), ?_⟩)
    rw [ws_r (by omega) wr]
    have g := ih (k + 1) (by omega) h
    rw [ws_cnt_s] at g
    by_cases z : wr k = nI j
    · rw [if_pos z] at g
      exact br_t z (nm_r (nI_1 _) (nm_r (nI_1 k) g))
    · rw [if_neg z] at g
      exact br_f z (nm_r (nI_1 k) g)
theorem wy_countAt {post : Int32 → Prop} {j v : Nat} (hv : v ≤ 128) (h : post (nI (ws_cnt wr j v))) : wpY_countAt post ((nI w), (nI n), (nI L), (nI ub), wr, wn, ca, H, ph, st, rd, it, sw, ew, lb, yv, ra) (nI j) (nI v) := ⟨v + 1, wy_countAt_lp hv v 0 (by omega) h⟩
theorem wy_valueAt_lp {post : Int32 → Prop} {j v : Nat} (hv : v ≤ 128) : ∀ d k : Nat, k + d = v → post (ws_last wr wn j v) → wY_valueAt_5 post (nI j) (nI v) (nI w) (nI n) (nI L) (nI ub) wr wn ca H ph st rd it sw ew lb yv ra (d + 1) (ws_last wr wn j k) (nI k) := by
  intro d
  induction d with
  | zero =>
    intro k hk h
    have e : k = v := by omega
    subst e
    exact br_t (nI_le (Nat.le_refl _) (by omega)) h
  | succ d ih =>
    intro k hk h
    refine br_f (nI_ge (by omega) (by omega)) (br_f (nI_ge (a := k) (b := 128) (by omega) (by omega)) ⟨ws_in (by omega), ?_⟩)
    rw [ws_r (by omega) wr]
    have g := ih (k + 1) (by omega) h
    rw [ws_last_s] at g
    by_cases z : wr k = nI j
    · rw [if_pos z] at g
      exact br_t z ⟨ws_in (by omega), nm_r (ws_r (by omega) wn) (nm_r (nI_1 k) g)⟩
    · rw [if_neg z] at g
      exact br_f z (nm_r (nI_1 k) g)
theorem wy_valueAt {post : Int32 → Prop} {j v : Nat} (hv : v ≤ 128) (h : post (ws_last wr wn j v)) : wpY_valueAt post ((nI w), (nI n), (nI L), (nI ub), wr, wn, ca, H, ph, st, rd, it, sw, ew, lb, yv, ra) (nI j) (nI v) := ⟨v + 1, wy_valueAt_lp hv v 0 (by omega) h⟩
theorem wy_heldBy_lp {post : Int32 → Prop} {j : Nat} (hv : w ≤ 128) : ∀ d k : Nat, k + d = w → post (ws_last wr ca j w) → wY_heldBy_4 post (nI j) (nI w) (nI n) (nI L) (nI ub) wr wn ca H ph st rd it sw ew lb yv ra (d + 1) (ws_last wr ca j k) (nI k) := by
  intro d
  induction d with
  | zero =>
    intro k hk h
    have e : k = w := by omega
    subst e
    exact br_t (nI_le (Nat.le_refl _) (by omega)) h
  | succ d ih =>
    intro k hk h
    refine br_f (nI_ge (by omega) (by omega)) (br_f (nI_ge (a := k) (b := 128) (by omega) (by omega)) ⟨ws_in (by omega), ?_⟩)
    rw [ws_r (by omega) wr]
    have g := ih (k + 1) (by omega) h
    rw [ws_last_s] at g
    by_cases z : wr k = nI j
    · rw [if_pos z] at g
      exact br_t z ⟨ws_in (by omega), nm_r (ws_r (by omega) ca) (nm_r (nI_1 k) g)⟩
    · rw [if_neg z] at g
      exact br_f z (nm_r (nI_1 k) g)
theorem wy_heldBy {post : Int32 → Prop} {j : Nat} (hv : w ≤ 128) (h : post (ws_last wr ca j w)) : wpY_heldBy post ((nI w), (nI n), (nI L), (nI ub), wr, wn, ca, H, ph, st, rd, it, sw, ew, lb, yv, ra) (nI j) := ⟨w + 1, wy_heldBy_lp hv w 0 (by omega) h⟩
theorem wy_reads_lp {post : Int32 → Prop} {i j r : Nat} (hi : i < 6) (h2 : 2 ≤ n) (h6 : n ≤ 6) (hj : j < n) (hr : r ≤ 64) (er : rd i = nI r) : ∀ d k : Nat, k + d = r → post (ws_rd (fun s => ra (i * 64 + s)) n j r) → wY_versionFor_53 post (nI i) (nI j) (nI w) (nI n) (nI L) (nI ub) wr wn ca H ph st rd it sw ew lb yv ra (d + 1) (ws_rd (fun s => ra (i * 64 + s)) n j k) (nI k) := by
  intro d
  induction d with
  | zero =>
    intro k hk h
    have e : k = r := by omega
    subst e
    refine ⟨ws_in hi, br_t ?_ h⟩
    rw [ws_r (by omega) rd, er]
    exact nI_le (Nat.le_refl _) (by omega)
  | succ d ih =>
    intro k hk h
    refine ⟨ws_in hi, br_f ?_ (br_f (nI_ge (a := k) (b := 64) (by omega) (by omega)) ⟨nI_ne0 (by omega) (by omega), ?_⟩)⟩
    · rw [ws_r (by omega) rd, er]
      exact nI_ge (by omega) (by omega)
    rw [pk_rem (a := k) (d := n) (by omega) (by omega) (by omega), ws_i64]
    have g := ih (k + 1) (by omega) h
    rw [ws_rd_s] at g
    have hm := ws_ml h2 k
    by_cases z : k % n = j
    · rw [if_pos z] at g
      exact br_t (by rw [z]) ⟨ws_in (by omega), nm_r (ws_r (by omega) ra) (nm_r (nI_1 k) g)⟩
    · rw [if_neg z] at g
      exact br_f (fun y => z ((nI_eq (by omega) (by omega)).mp y)) (nm_r (nI_1 k) g)
theorem wy_moved_lp {post : Int32 → Prop} {p j r : Nat} (hp : p < 6) (h2 : 2 ≤ n) (h6 : n ≤ 6) (hj : j < n) (hr : r ≤ 64) (er : rd p = nI r) (hw : w ≤ 128) (hR : ws_Rds w (fun s => ra (p * 64 + s)) r) : ∀ d k : Nat, n ≤ k → k + d = r → post (nI (ws_mv wr (fun s => ra (p * 64 + s)) n j r)) → wY_movedIn_26 post (nI p) (nI j) (nI w) (nI n) (nI L) (nI ub) wr wn ca H ph st rd it sw ew lb yv ra (d + 1) (nI (ws_mv wr (fun s => ra (p * 64 + s)) n j k)) (nI k) := by
  intro d
  induction d with
  | zero =>
    intro k hnk hk h
    have e : k = r := by omega
    subst e
    refine ⟨ws_in hp, br_t ?_ h⟩
    rw [ws_r (by omega) rd, er]
    exact nI_le (Nat.le_refl _) (by omega)
  | succ d ih =>
    intro k hnk hk h
    refine ⟨ws_in hp, br_f ?_ (br_f (nI_ge (a := k) (b := 64) (by omega) (by omega)) ⟨nI_ne0 (by omega) (by omega), ?_⟩)⟩
    · rw [ws_r (by omega) rd, er]
      exact nI_ge (by omega) (by omega)
    rw [pk_rem (a := k) (d := n) (by omega) (by omega) (by omega), ws_i64]
    have g := ih (k + 1) (by omega) (by omega) h
    rw [ws_mv_s] at g
    have hm := ws_ml h2 k
    by_cases z : k % n = j
    · refine br_t (by rw [z]) ⟨ws_in (by omega), ?_⟩
      obtain ⟨a, ha, ea⟩ := hR k (by omega)
      obtain ⟨b, hb, eb⟩ := hR (k - n) (by omega)
      dsimp only at ea eb g
      rw [ea, eb, nI_clamp (by omega), nI_clamp (by omega)] at g
      rw [ws_r (by omega) ra, ea, pk_sub (show n ≤ p * 64 + k by omega), show p * 64 + k - n = p * 64 + (k - n) by omega]
      refine wy_countAt (by omega) ⟨ws_in (by omega), ?_⟩
      rw [ws_r (by omega) ra, eb]
      refine wy_countAt (by omega) ?_
      have c1 := ws_cnt_le wr j a
      have c2 := ws_cnt_le wr j b
      refine pk_le (ws_cnt wr j a) (ws_cnt wr j b) (fun q => ?_) (fun q => ⟨nI_ne0 (by omega) (by omega), ?_⟩)
      · rw [if_neg (by omega)] at g
        exact nm_r (nI_1 k) g
      · rw [if_pos ⟨hnk, z, q⟩] at g
        refine nm_r (e' := nI (k / n + 1)) ?_ (nm_r (nI_1 k) g)
        rw [pk_div (by omega) (by omega) (by omega), nI_1]
    · rw [if_neg (fun y => z y.2.1)] at g
      exact br_f (fun y => z ((nI_eq (by omega) (by omega)).mp y)) (nm_r (nI_1 k) g)
theorem wy_movedIn {post : Int32 → Prop} {p j r : Nat} (hp : p < n) (h2 : 2 ≤ n) (h6 : n ≤ 6) (hj : j < n) (hr : r ≤ 64) (er : rd p = nI r) (hw : w ≤ 128) (hR : ws_Rds w (fun s => ra (p * 64 + s)) r) (h : post (nI (ws_mv wr (fun s => ra (p * 64 + s)) n j r))) : wpY_movedIn post ((nI w), (nI n), (nI L), (nI ub), wr, wn, ca, H, ph, st, rd, it, sw, ew, lb, yv, ra) (nI p) (nI j) := by
  unfold wpY_movedIn
  refine wy_in hp h6 (br_t rfl ?_)
  refine wy_in hj h6 (br_t rfl ?_)
  by_cases z : n ≤ r
  · have g := wy_moved_lp (post := post) (L := L) (ub := ub) (wr := wr) (wn := wn) (ca := ca) (H := H) (ph := ph) (st := st) (it := it) (sw := sw) (ew := ew) (lb := lb) (yv := yv) (show p < 6 by omega) h2 h6 hj hr er hw hR (r - n) n (Nat.le_refl n) (by omega) h
    rw [ws_mv_0 wr _ n j n (Nat.le_refl n)] at g
    exact ⟨_, g⟩
  · rw [ws_mv_0 wr _ n j r (by omega)] at h
    refine ⟨1, ⟨ws_in (by omega), br_t ?_ h⟩⟩
    rw [ws_r (by omega) rd, er]
    exact nI_le (by omega) (by omega)
theorem wy_endReading {post : SY → Prop} {p t t' : Nat} {x y : Int32} (hp : p < 6) (et : ph p = nI t) (ht : (t = 1 ∧ t' = 0) ∨ (t = 2 ∧ t' = 3))
    (h : post ((nI w), (nI n), (nI L), (nI ub), wr, wn, ca, H, (upd ph p (nI t')), st, rd, it, sw, (upd ew p (nI w)), (upd lb p y), (upd yv p x), ra)) : wpY_endReading post ((nI w), (nI n), (nI L), (nI ub), wr, wn, ca, H, ph, st, rd, it, sw, ew, lb, yv, ra) (nI p) x y := by
  have i : vp_in (nI p) 6 := ws_in hp
  refine ⟨i, nm_r (ws_u (by omega) yv x) ⟨i, nm_r (ws_u (by omega) lb y) ⟨i, nm_r (ws_u (by omega) ew (nI w)) ⟨i, ?_⟩⟩⟩⟩
  rw [ws_r (by omega) ph, et]
  rcases ht with ⟨rfl, rfl⟩ | ⟨rfl, rfl⟩
  · exact br_f (by decide) ⟨i, nm_r (ws_u (by omega) ph 0) h⟩
  · exact br_t rfl ⟨i, nm_r (ws_u (by omega) ph 3) h⟩
theorem wy_clean_lp {post : SY → Prop} {p r c x2 x3 : Nat} {R : Nat} (hp : p < n) (h2 : 2 ≤ n) (h6 : n ≤ 6) (hr : R ≤ 64) (er : rd p = nI R) (hw : w ≤ 128) (hR : ws_Rds w (fun s => ra (p * 64 + s)) R) (hc : c < 2 ^ 31)
    (h0 : (∀ i, i < n → ¬ ws_mv wr (fun s => ra (p * 64 + s)) n i R = c) → (vp_in ((nI x3 + nI x2) - nI n) 384 ∧ wpY_endReading post ((nI w), (nI n), (nI L), (nI ub), wr, wn, ca, H, ph, st, rd, it, sw, ew, lb, yv, ra) (nI p) (ra ((nI x3 + nI x2) - nI n).toNatClampNeg) (-7)))
    (h1 : (∃ i, i < n ∧ ws_mv wr (fun s => ra (p * 64 + s)) n i R = c) → post ((nI w), (nI n), (nI L), (nI ub), wr, wn, ca, H, ph, st, rd, it, sw, ew, lb, yv, ra)) : ∀ d k : Nat, ∀ f : Int32, k + d = n →
    ((f = 0 ∧ ∀ i, i < k → ¬ ws_mv wr (fun s => ra (p * 64 + s)) n i R = c) ∨ (f = 1 ∧ ∃ i, i < k ∧ ws_mv wr (fun s => ra (p * 64 + s)) n i R = c)) →
    wY_read_140 post (nI p) (nI x2) (nI x3) (nI c) (nI w) (nI n) (nI L) (nI ub) wr wn ca H ph st rd it sw ew lb yv ra (d + 1) f (nI k) := by
  intro d
  induction d with
  | zero =>
    intro k f hk hf
    have e : k = n := by omega
    subst e
    refine br_t (nI_le (Nat.le_refl _) (by omega)) ?_
    rcases hf with ⟨rfl, hf⟩ | ⟨rfl, hf⟩
    · exact br_t rfl (h0 hf)
    · exact br_f (by decide) (h1 hf)
  | succ d ih =>
    intro k f hk hf
    refine br_f (nI_ge (by omega) (by omega)) ?_
    refine wy_movedIn hp h2 h6 (show k < n by omega) hr er hw hR ?_
    have b := ws_mv_le wr (fun s => ra (p * 64 + s)) n k R
    refine pk_eq (ws_mv wr (fun s => ra (p * 64 + s)) n k R) c (fun z => ?_) (fun z => ?_)
    · exact nm_r (nI_1 k) (ih (k + 1) 1 (by omega) (Or.inr ⟨rfl, k, by omega, z⟩))
    · refine nm_r (nI_1 k) (ih (k + 1) f (by omega) ?_)
      rcases hf with ⟨e, hf⟩ | ⟨e, i, hi, hf⟩
      · refine Or.inl ⟨e, fun i hi => ?_⟩
        by_cases q : i = k
        · rw [q]
          exact z
        · exact hf i (by omega)
      · exact Or.inr ⟨e, i, by omega, hf⟩
end
end
section
/-! a read step of each side, in the words of the pure picture -/
def ws_MG (n w r b : Nat) (wr A mc : Nat → Int32) : Nat → Int32 := if n ≤ r ∧ ws_cnt wr (r % n) (A (r - n)).toNatClampNeg < ws_cnt wr (r % n) w then upd mc (b + r % n) (nI (r / n + 1)) else mc
def ws_FG (n w r b : Nat) (wr fc : Nat → Int32) : Nat → Int32 := if r < n then upd fc (b + r % n) (nI (ws_cnt wr (r % n) w)) else fc
theorem ws_MG_loc (n w r b : Nat) (wr A mc : Nat → Int32) : (fun i => ws_MG n w r b wr A mc (b + i)) = ws_MN n w r wr A (fun i => mc (b + i)) := by
  unfold ws_MG ws_MN
  split
  · exact ws_loc mc b (r % n) _
  · rfl
theorem ws_FG_loc (n w r b : Nat) (wr fc : Nat → Int32) : (fun i => ws_FG n w r b wr fc (b + i)) = ws_FN n w r wr (fun i => fc (b + i)) := by
  unfold ws_FG ws_FN
  split
  · exact ws_loc fc b (r % n) _
  · rfl
theorem ws_MG_o (n w r b : Nat) (wr A mc : Nat → Int32) (x : Nat) (h : x ≠ b + r % n) : ws_MG n w r b wr A mc x = mc x := by
  unfold ws_MG
  split
  · exact pk_un h
  · rfl
theorem ws_FG_o (n w r b : Nat) (wr fc : Nat → Int32) (x : Nat) (h : x ≠ b + r % n) : ws_FG n w r b wr fc x = fc x := by
  unfold ws_FG
  split
  · exact pk_un h
  · rfl
section
variable {n L w ub : Nat} {vV vC hV H ph st it sw ew lb vw co nx lc mc fc rv : Nat → Int32} {wr wn A : Nat → Int32} {p r : Nat}
theorem wx_note {post : SX → Prop} (hp : p < 6) (h2 : 2 ≤ n) (h6 : n ≤ 6) (hw : w ≤ 128) (hr : r < 64) (hV' : ws_V w vV vC wr wn) (hR : ws_Rds w A r) (hc : co p = nI (r / n + 1))
    (hrv : rv (p * 6 + r % n) = ws_rd A n (r % n) r)
    (h : post ((nI n), (nI L), (nI w), (nI ub), vV, vC, hV, H, ph, st, it, sw, ew, lb, vw, co, nx, lc, (ws_MG n w r (p * 6) wr A mc), (ws_FG n w r (p * 6) wr fc), (upd rv (p * 6 + r % n) (nI w)))) : wpX_noteRead post ((nI n), (nI L), (nI w), (nI ub), vV, vC, hV, H, ph, st, it, sw, ew, lb, vw, co, nx, lc, mc, fc, rv) (nI p) (nI (r % n)) := by
  have hml := ws_ml h2 r
  have d3 := ws_dm3 h2 h6 r
  have dl := Nat.div_le_self r n
  have eq := (hV' w (r % n) (Nat.le_refl w) (by omega)).1
  unfold ws_MG ws_FG at h
  by_cases z : n ≤ r
  · obtain ⟨b1, b2⟩ := ws_Rds_c hw hR (show r - n < r by omega)
    have ea := (hV' (A (r - n)).toNatClampNeg (r % n) b1 (by omega)).1
    have c1 := ws_cnt_le wr (r % n) w
    have c2 := ws_cnt_le wr (r % n) (A (r - n)).toNatClampNeg
    have d4 := d3.2.1 z
    refine wx_noteRead (a := (A (r - n)).toNatClampNeg) (c := r / n + 1) hp (by omega) hw (by omega) hc (by omega) (fun _ => by rw [hrv, ws_rd_prev h2 h6 A r z]; exact b2) (fun y => by omega) (fun _ y => ?_) (fun _ y => ?_)
    · rw [eq, ea, nI_leI (by omega) (by omega)] at y
      rw [if_neg (by omega), if_neg (by omega)] at h
      exact h
    · rw [eq, ea, nI_leI (by omega) (by omega)] at y
      rw [if_pos ⟨z, by omega⟩, if_neg (by omega)] at h
      exact h
  · have d4 := d3.1 (by omega)
    refine wx_noteRead (a := 0) (c := r / n + 1) hp (by omega) hw (by omega) hc (by omega) (fun y => by omega) (fun _ => ?_) (fun y => by omega) (fun y => by omega)
    rw [if_neg (fun y => z y.1), if_pos (by omega)] at h
    rw [eq]
    exact h
theorem wx_twice {post : Int32 → Prop} (hp : p < 6) (h2 : 2 ≤ n) (h6 : n ≤ 6) (hw : w ≤ 128) (hV' : ws_V w vV vC wr wn) (hR : ws_Rds w A r)
    (hF : ∀ j, j < n → j < r → fc (p * 6 + j) = nI (ws_cnt wr j (A j).toNatClampNeg))
    (h0 : (r < n ∨ ws_cnt wr (r % n) w < ws_cnt wr (r % n) (A (r % n)).toNatClampNeg + 2) → post 0)
    (h1 : n ≤ r → ws_cnt wr (r % n) (A (r % n)).toNatClampNeg + 2 ≤ ws_cnt wr (r % n) w → post 1) : wpX_movedTwice post ((nI n), (nI L), (nI w), (nI ub), vV, vC, hV, H, ph, st, it, sw, ew, lb, vw, co, nx, lc, mc, (ws_FG n w r (p * 6) wr fc), rv) (nI p) (nI (r % n)) := by
  have hml := ws_ml h2 r
  have eq := (hV' w (r % n) (Nat.le_refl w) (by omega)).1
  have c1 := ws_cnt_le wr (r % n) w
  by_cases z : n ≤ r
  · have m := ws_cnt_mon wr (r % n) (ws_Rds_c hw hR (show r % n < r by omega)).1
    have ef : ws_FG n w r (p * 6) wr fc (p * 6 + r % n) = nI (ws_cnt wr (r % n) (A (r % n)).toNatClampNeg) := by
      unfold ws_FG
      rw [if_neg (by omega)]
      exact hF (r % n) (by omega) (by omega)
    have e : vC (w * 6 + r % n) - ws_FG n w r (p * 6) wr fc (p * 6 + r % n) < 2 ↔ ws_cnt wr (r % n) w - ws_cnt wr (r % n) (A (r % n)).toNatClampNeg < 2 := by
      rw [eq, ef, pk_sub m]
      exact nI_ltI (b := 2) (by omega) (by decide)
    refine wx_movedTwice hp (by omega) hw (fun y => h0 (Or.inr ?_)) (fun y => h1 z ?_)
    · have := e.mp y
      omega
    · have : ¬ ws_cnt wr (r % n) w - ws_cnt wr (r % n) (A (r % n)).toNatClampNeg < 2 := fun q => y (e.mpr q)
      omega
  · have e : vC (w * 6 + r % n) - ws_FG n w r (p * 6) wr fc (p * 6 + r % n) < 2 := by
      unfold ws_FG
      rw [if_pos (by omega), pk_us, eq, Int32.sub_self]
      decide
    exact wx_movedTwice hp (by omega) hw (fun _ => h0 (Or.inl (by omega))) (fun y => absurd e y)
theorem wx_end {post : SX → Prop} {t t' : Nat} {x y : Int32} (hp : p < 6) (et : ph p = nI t) (ht : (t = 1 ∧ t' = 0) ∨ (t = 2 ∧ t' = 3))
    (h : post ((nI n), (nI L), (nI w), (nI ub), vV, vC, hV, H, (upd ph p (nI t')), st, it, sw, (upd ew p (nI w)), (upd lb p y), (upd vw p x), co, nx, lc, mc, fc, rv)) : wpX_endReading post ((nI n), (nI L), (nI w), (nI ub), vV, vC, hV, H, ph, st, it, sw, ew, lb, vw, co, nx, lc, mc, fc, rv) (nI p) x y := by
  refine wx_endReading hp (fun z => ?_) (fun z => ?_)
  · rcases ht with ⟨rfl, rfl⟩ | ⟨rfl, rfl⟩
    · exact h
    · rw [et] at z
      exact absurd z (by decide)
  · rcases ht with ⟨rfl, rfl⟩ | ⟨rfl, rfl⟩
    · exact absurd et z
    · exact h
theorem wx_read {post : SX → Prop} {t t' : Nat} (hp : p < 6) (h2 : 2 ≤ n) (h6 : n ≤ 6) (hw : w ≤ 128) (hr : r < 64) (hV' : ws_V w vV vC wr wn) (hR : ws_Rds w A r)
    (hT : ws_Tab n wr A (fun j => mc (p * 6 + j)) (fun j => rv (p * 6 + j)) r) (hG : ws_Go n wr A (co p) (nx p) (lc p) (fun j => fc (p * 6 + j)) r)
    (et : ph p = nI t) (ht : (t = 1 ∧ t' = 0) ∨ (t = 2 ∧ t' = 3))
    (hA : n ≤ r → ws_cnt wr (r % n) (A (r % n)).toNatClampNeg + 2 ≤ ws_cnt wr (r % n) w →
      post ((nI n), (nI L), (nI w), (nI ub), vV, vC, hV, H, (upd ph p (nI t')), st, it, sw, (upd ew p (nI w)), (upd lb p (nI (r % n))), (upd vw p (hV (r % n))), co, nx, lc, (ws_MG n w r (p * 6) wr A mc), (ws_FG n w r (p * 6) wr fc), (upd rv (p * 6 + r % n) (nI w))))
    (hB : (r < n ∨ ws_cnt wr (r % n) w < ws_cnt wr (r % n) (A (r % n)).toNatClampNeg + 2) → r % n + 1 < n →
      post ((nI n), (nI L), (nI w), (nI ub), vV, vC, hV, H, ph, st, it, sw, ew, lb, vw, co, (upd nx p (nI (r % n + 1))), lc, (ws_MG n w r (p * 6) wr A mc), (ws_FG n w r (p * 6) wr fc), (upd rv (p * 6 + r % n) (nI w))))
    (hC : n ≤ r → ws_cnt wr (r % n) w < ws_cnt wr (r % n) (A (r % n)).toNatClampNeg + 2 → r % n + 1 = n → (∀ i, i < n → ¬ ws_mv wr (upd A r (nI w)) n i (r + 1) = r / n + 1) →
      post ((nI n), (nI L), (nI w), (nI ub), vV, vC, hV, H, (upd ph p (nI t')), st, it, sw, (upd ew p (nI w)), (upd lb p (-7)), (upd vw p (lc p)), co, nx, lc, (ws_MG n w r (p * 6) wr A mc), (ws_FG n w r (p * 6) wr fc), (upd rv (p * 6 + r % n) (nI w))))
    (hD : (r < n ∨ ws_cnt wr (r % n) w < ws_cnt wr (r % n) (A (r % n)).toNatClampNeg + 2) → r % n + 1 = n → (r < n ∨ ∃ i, i < n ∧ ws_mv wr (upd A r (nI w)) n i (r + 1) = r / n + 1) →
      post ((nI n), (nI L), (nI w), (nI ub), vV, vC, hV, H, ph, st, it, sw, ew, lb, vw, (upd co p (nI (r / n + 2))), (upd nx p 0), (upd lc p (nI w)), (ws_MG n w r (p * 6) wr A mc), (ws_FG n w r (p * 6) wr fc), (upd rv (p * 6 + r % n) (nI w)))) :
    wpX_read post ((nI n), (nI L), (nI w), (nI ub), vV, vC, hV, H, ph, st, it, sw, ew, lb, vw, co, nx, lc, mc, fc, rv) (nI p) (nI (r % n)) := by
  have hml := ws_ml h2 r
  have dl := Nat.div_le_self r n
  have d3 := ws_dm3 h2 h6 r
  obtain ⟨g1, g2, g3, g4, g5⟩ := hG
  unfold wpX_read
  refine wx_note hp h2 h6 hw hr hV' hR g1 (hT (r % n) hml).1 ?_
  have e1 : (nI n - 1 : Int32) = nI (n - 1) := by
    rw [show n = (n - 1) + 1 by omega, nI_pred]
    rfl
  refine wx_twice hp h2 h6 hw hV' hR g4 (fun y => br_t rfl ?_) (fun y1 y2 => br_f (by decide) ⟨ws_in (by omega), ?_⟩)
  · rw [e1]
    refine pk_le (n - 1) (r % n) (fun q => ?_) (fun q => ⟨ws_in hp, nm_r (e' := upd nx p (nI (r % n + 1))) (by rw [ws_u (by omega), nI_1]) (hB y (by omega))⟩)
    have tab : ∀ i, i < n → (ws_MG n w r (p * 6) wr A mc (p * 6 + i) = nI (r / n + 1) ↔ ws_mv wr (upd A r (nI w)) n i (r + 1) = r / n + 1) := by
      intro i hi
      have a := (ws_Tab_new h2 hw hT i hi).2
      rw [← ws_MG_loc] at a
      dsimp only at a
      have b := ws_mv_le wr (upd A r (nI w)) n i (r + 1)
      rw [a]
      exact nI_eq (by omega) (by omega)
    refine wx_clean (c := r / n + 1) hp h6 g1 (by omega) (fun s => br_t rfl ?_) (fun s1 s2 => br_f (by decide) ⟨ws_in hp, ?_⟩)
    · refine wx_next hp ?_
      rw [g1, nI_1]
      refine hD y (by omega) ?_
      rcases s with s | ⟨i, hi, s⟩
      · refine Or.inl ?_
        by_cases c : n ≤ r
        · have := d3.2.1 c
          omega
        · omega
      · exact Or.inr ⟨i, hi, (tab i hi).mp s⟩
    · have hnr : n ≤ r := by
        by_cases c : n ≤ r
        · exact c
        · have := (d3.1 (by omega)).1
          omega
      rw [ws_r (by omega) lc]
      exact wx_end hp et ht (hC hnr (by omega) (by omega) (fun i hi c => s2 i hi ((tab i hi).mpr c)))
  · rw [ws_r (by omega) hV]
    exact wx_end hp et ht (hA y1 y2)
end
end
section
/-! the reference's read step, and both sides' steps -/
section
variable {n L w ub : Nat} {wr wn ca H ph st rd it sw ew lb yv ra : Nat → Int32} {p r : Nat}
theorem wy_read {post : SY → Prop} {t t' : Nat} (hp : p < n) (h2 : 2 ≤ n) (h6 : n ≤ 6) (hw : w ≤ 128) (hr : r < 64) (er : rd p = nI r) (hR : ws_Rds w (fun s => ra (p * 64 + s)) r)
    (et : ph p = nI t) (ht : (t = 1 ∧ t' = 0) ∨ (t = 2 ∧ t' = 3))
    (hA : n ≤ r → ws_cnt wr (r % n) (ra (p * 64 + r % n)).toNatClampNeg + 2 ≤ ws_cnt wr (r % n) w →
      post ((nI w), (nI n), (nI L), (nI ub), wr, wn, ca, H, (upd ph p (nI t')), st, (upd rd p (nI (r + 1))), it, sw, (upd ew p (nI w)), (upd lb p (nI (r % n))), (upd yv p (ws_last wr ca (r % n) w)), (upd ra (p * 64 + r) (nI w))))
    (hB : (r < n ∨ ws_cnt wr (r % n) w < ws_cnt wr (r % n) (ra (p * 64 + r % n)).toNatClampNeg + 2) → r % n + 1 < n →
      post ((nI w), (nI n), (nI L), (nI ub), wr, wn, ca, H, ph, st, (upd rd p (nI (r + 1))), it, sw, ew, lb, yv, (upd ra (p * 64 + r) (nI w))))
    (hC : n ≤ r → ws_cnt wr (r % n) w < ws_cnt wr (r % n) (ra (p * 64 + r % n)).toNatClampNeg + 2 → r % n + 1 = n → (∀ i, i < n → ¬ ws_mv wr (upd (fun s => ra (p * 64 + s)) r (nI w)) n i (r + 1) = r / n + 1) →
      post ((nI w), (nI n), (nI L), (nI ub), wr, wn, ca, H, (upd ph p (nI t')), st, (upd rd p (nI (r + 1))), it, sw, (upd ew p (nI w)), (upd lb p (-7)), (upd yv p (ra (p * 64 + (r - n)))), (upd ra (p * 64 + r) (nI w))))
    (hD : (r < n ∨ ws_cnt wr (r % n) w < ws_cnt wr (r % n) (ra (p * 64 + r % n)).toNatClampNeg + 2) → r % n + 1 = n → (r < n ∨ ∃ i, i < n ∧ ws_mv wr (upd (fun s => ra (p * 64 + s)) r (nI w)) n i (r + 1) = r / n + 1) →
      post ((nI w), (nI n), (nI L), (nI ub), wr, wn, ca, H, ph, st, (upd rd p (nI (r + 1))), it, sw, ew, lb, yv, (upd ra (p * 64 + r) (nI w)))) :
    wpY_read post ((nI w), (nI n), (nI L), (nI ub), wr, wn, ca, H, ph, st, rd, it, sw, ew, lb, yv, ra) (nI p) := by
  have hml := ws_ml h2 r
  have dl := Nat.div_le_self r n
  have d3 := ws_dm3 h2 h6 r
  have hp6 : p < 6 := by omega
  have i6 : vp_in (nI p) 6 := ws_in hp6
  have n0 : ¬ nI n = 0 := nI_ne0 (by omega) (by omega)
  refine ⟨i6, nm_r (e' := nI r) (by rw [ws_r (by omega) rd]; exact er) ?_⟩
  refine br_t (nI_lt (b := 64) hr (by omega)) ?_
  refine nm_r (e' := nI (p * 64)) (pk_mul p 64) ⟨n0, ?_⟩
  refine nm_r (pk_rem (by omega) (by omega) (by omega)) ⟨n0, ?_⟩
  refine nm_r (e' := nI (r / n + 1)) (by rw [pk_div (by omega) (by omega) (by omega), nI_1]) ?_
  refine ⟨by rw [nI_add]; exact ws_in (by omega), nm_r (e' := upd ra (p * 64 + r) (nI w)) (by rw [nI_add, nI_clamp (by omega)]) ⟨i6, ?_⟩⟩
  refine nm_r (e' := upd rd p (nI (r + 1))) (by rw [ws_u (by omega), nI_1]) ?_
  refine pk_le 2 (r / n + 1) (fun c2 => ?_) (fun c2 => ?_)
  · have hnr : n ≤ r := by
      by_cases c : n ≤ r
      · exact c
      · have := (d3.1 (by omega)).1
        omega
    obtain ⟨b1, b2⟩ := ws_Rds_c hw hR (show r % n < r by omega)
    have q1 := ws_cnt_le wr (r % n) w
    have q2 := ws_cnt_le wr (r % n) (ra (p * 64 + r % n)).toNatClampNeg
    refine wy_countAt hw ⟨by rw [nI_add]; exact ws_in (by omega), ?_⟩
    rw [nI_add, ws_r (by omega) (upd ra (p * 64 + r) (nI w)), pk_un (show p * 64 + r % n ≠ p * 64 + r by omega), b2]
    refine wy_countAt (by omega) ?_
    rw [show (2 : Int32) = nI 2 from rfl, nI_add]
    refine pk_lt _ _ (fun q => ?_) (fun q => ?_)
    · have e1 : (nI n - 1 : Int32) = nI (n - 1) := by
        rw [show n = (n - 1) + 1 by omega, nI_pred]
        rfl
      rw [e1]
      refine pk_eq (r % n) (n - 1) (fun z => ⟨n + 1, ?_⟩) (fun z => hB (Or.inr q) (by omega))
      have lc := ws_loc ra (p * 64) r (nI w)
      refine wy_clean_lp (r := r) (R := r + 1) hp h2 h6 (by omega) pk_us hw (by rw [lc]; exact ws_Rds_new hR) (by omega) (fun y => ?_) (fun y => ?_) n 0 0 (by omega) (Or.inl ⟨rfl, fun i hi => by omega⟩)
      · rw [lc] at y
        rw [nI_add, pk_sub (show n ≤ p * 64 + r by omega), show p * 64 + r - n = p * 64 + (r - n) by omega]
        refine ⟨ws_in (by omega), ?_⟩
        rw [ws_r (by omega) (upd ra (p * 64 + r) (nI w)), pk_un (show p * 64 + (r - n) ≠ p * 64 + r by omega)]
        exact wy_endReading hp6 et ht (hC hnr q (by omega) y)
      · rw [lc] at y
        exact hD (Or.inr q) (by omega) (Or.inr y)
    · refine wy_heldBy hw ?_
      exact wy_endReading hp6 et ht (hA hnr q)
  · have hnr : r < n := by
      by_cases c : n ≤ r
      · have := d3.2.1 c
        omega
      · omega
    by_cases z : r % n + 1 < n
    · exact hB (Or.inl hnr) z
    · exact hD (Or.inl hnr) (by omega) (Or.inl hnr)
theorem wy_stepW {post : SY → Prop} (hp : p < 6) (hw : w < 128) (et : ph p = 3)
    (h : post ((nI (w + 1)), (nI n), (nI L), (nI ub), (upd wr w (nI p)), (upd wn w (it p)), (upd ca w (yv p)), H, (upd ph p 0), (upd st p (st p + 1)), rd, it, sw, ew, lb, yv, ra)) : wpY_step post ((nI w), (nI n), (nI L), (nI ub), wr, wn, ca, H, ph, st, rd, it, sw, ew, lb, yv, ra) (nI p) := by
  have i : vp_in (nI p) 6 := ws_in hp
  have i2 : vp_in (nI w) 128 := ws_in hw
  refine ⟨i, ⟨i, nm_r (e' := upd st p (st p + 1)) (by rw [nI_clamp (by omega)]) ⟨i, ?_⟩⟩⟩
  refine br_t (by rw [ws_r (by omega) ph]; exact et) (br_f (nI_ge (a := w) (b := 128) hw (by omega)) ⟨i2, ?_⟩)
  refine nm_r (ws_u (by omega) wr (nI p)) ⟨i, ⟨i2, ?_⟩⟩
  refine nm_r (e' := upd wn w (it p)) (by rw [nI_clamp (by omega), nI_clamp (by omega)]) ⟨i, ⟨i2, ?_⟩⟩
  refine nm_r (e' := upd ca w (yv p)) (by rw [nI_clamp (by omega), nI_clamp (by omega)]) ?_
  exact nm_r (nI_1 w) ⟨i, nm_r (ws_u (by omega) ph 0) h⟩
theorem wy_stepR {post : SY → Prop} (hp : p < 6) (et : ¬ ph p = 3) (h : wpY_read post ((nI w), (nI n), (nI L), (nI ub), wr, wn, ca, H, ph, (upd st p (st p + 1)), rd, it, sw, ew, lb, yv, ra) (nI p)) : wpY_step post ((nI w), (nI n), (nI L), (nI ub), wr, wn, ca, H, ph, st, rd, it, sw, ew, lb, yv, ra) (nI p) := by
  have i : vp_in (nI p) 6 := ws_in hp
  refine ⟨i, ⟨i, nm_r (e' := upd st p (st p + 1)) (by rw [nI_clamp (by omega)]) ⟨i, ?_⟩⟩⟩
  exact br_f (by rw [ws_r (by omega) ph]; exact et) h
end
section
variable {n L w ub : Nat} {vV vC hV H ph st it sw ew lb vw co nx lc mc fc rv : Nat → Int32} {p r : Nat}
theorem wx_stepW {post : SX → Prop} (hp : p < 6) (hw : w < 128) (et : ph p = 3)
    (h : post ((nI n), (nI L), (nI (w + 1)), (nI ub), (upd (ws_row vV (w * 6) 6) (w * 6 + 6 + p) (it p)), (upd (ws_row vC (w * 6) 6) (w * 6 + 6 + p) (ws_row vC (w * 6) 6 (w * 6 + 6 + p) + 1)), (upd hV p (vw p)), H, (upd ph p 0), (upd st p (st p + 1)), it, sw, ew, lb, vw, co, nx, lc, mc, fc, rv)) : wpX_takeStep post ((nI n), (nI L), (nI w), (nI ub), vV, vC, hV, H, ph, st, it, sw, ew, lb, vw, co, nx, lc, mc, fc, rv) (nI p) := by
  have i : vp_in (nI p) 6 := ws_in hp
  refine ⟨i, ⟨i, nm_r (e' := upd st p (st p + 1)) (by rw [nI_clamp (by omega)]) ⟨i, ?_⟩⟩⟩
  refine br_t (by rw [ws_r (by omega) ph]; exact et) ?_
  exact wx_write hp hw h
theorem wx_stepR {post : SX → Prop} {j : Nat} (hp : p < 6) (et : ¬ ph p = 3) (ej : nx p = nI j) (h : wpX_read post ((nI n), (nI L), (nI w), (nI ub), vV, vC, hV, H, ph, (upd st p (st p + 1)), it, sw, ew, lb, vw, co, nx, lc, mc, fc, rv) (nI p) (nI j)) : wpX_takeStep post ((nI n), (nI L), (nI w), (nI ub), vV, vC, hV, H, ph, st, it, sw, ew, lb, vw, co, nx, lc, mc, fc, rv) (nI p) := by
  have i : vp_in (nI p) 6 := ws_in hp
  refine ⟨i, ⟨i, nm_r (e' := upd st p (st p + 1)) (by rw [nI_clamp (by omega)]) ⟨i, ?_⟩⟩⟩
  refine br_f (by rw [ws_r (by omega) ph]; exact et) ⟨i, ?_⟩
  rw [ws_r (by omega) nx, ej]
  exact h
end
end
section
/-! the relation, and a step on both sides -/
def ws_R (n L w ub : Nat) (vV vC hV ph ew vw co nx lc mc fc rv wr wn ca rd yv ra : Nat → Int32) : Prop :=
  2 ≤ n ∧ n ≤ 6 ∧ L ≤ 128 ∧ ub ≤ L ∧ w + ws_act ph n ≤ ub ∧ ws_V w vV vC wr wn ∧ ws_H n w hV wr ca ∧
  ∀ p, p < n → ws_P n w wr (fun s => ra (p * 64 + s)) (rd p) (ph p) (ew p) (vw p) (yv p) (co p) (nx p) (lc p) (fun j => mc (p * 6 + j)) (fun j => fc (p * 6 + j)) (fun j => rv (p * 6 + j))
def ws_S (n : Nat) (u : SX) (v : SY) : Prop := ∃ (L w ub : Nat) (vV vC hV H ph st it sw ew lb vw co nx lc mc fc rv wr wn ca rd yv ra : Nat → Int32),
  u = ((nI n), (nI L), (nI w), (nI ub), vV, vC, hV, H, ph, st, it, sw, ew, lb, vw, co, nx, lc, mc, fc, rv) ∧ v = ((nI w), (nI n), (nI L), (nI ub), wr, wn, ca, H, ph, st, rd, it, sw, ew, lb, yv, ra) ∧ ws_R n L w ub vV vC hV ph ew vw co nx lc mc fc rv wr wn ca rd yv ra
section
variable {n L w ub : Nat} {vV vC hV H ph st it sw ew lb vw co nx lc mc fc rv wr wn ca rd yv ra : Nat → Int32} {p : Nat}
theorem ws_S_i (h : ws_R n L w ub vV vC hV ph ew vw co nx lc mc fc rv wr wn ca rd yv ra) : ws_S n ((nI n), (nI L), (nI w), (nI ub), vV, vC, hV, H, ph, st, it, sw, ew, lb, vw, co, nx, lc, mc, fc, rv) ((nI w), (nI n), (nI L), (nI ub), wr, wn, ca, H, ph, st, rd, it, sw, ew, lb, yv, ra) :=
  ⟨L, w, ub, vV, vC, hV, H, ph, st, it, sw, ew, lb, vw, co, nx, lc, mc, fc, rv, wr, wn, ca, rd, yv, ra, rfl, rfl, h⟩
theorem ws_stepW (h : ws_R n L w ub vV vC hV ph ew vw co nx lc mc fc rv wr wn ca rd yv ra) (hp : p < n) (e3 : ph p = nI 3) :
    ∃ u' v', ws_S n u' v' ∧ (∀ post, post u' → wpX_takeStep post ((nI n), (nI L), (nI w), (nI ub), vV, vC, hV, H, ph, st, it, sw, ew, lb, vw, co, nx, lc, mc, fc, rv) (nI p)) ∧ (∀ post, post v' → wpY_step post ((nI w), (nI n), (nI L), (nI ub), wr, wn, ca, H, ph, st, rd, it, sw, ew, lb, yv, ra) (nI p)) := by
  obtain ⟨h2, h6, hL, hub, hact, hV', hH, hP⟩ := h
  have ac := ws_act_upd ph p 0 n hp
  rw [e3, show ws_b (nI 3) = 1 from by decide, show ws_b 0 = 0 from by decide] at ac
  have hw : w < 128 := by omega
  have hp6 : p < 6 := by omega
  obtain ⟨x, hx, ex, ey⟩ : ∃ x, x ≤ w ∧ vw p = nI x ∧ yv p = nI x := by
    obtain ⟨r, t, hr, ht, er, et, h1, h2', h3, h4, h5⟩ := hP p hp
    rw [e3] at et
    have et3 : t = 3 := ((nI_eq (by decide) (by omega)).mp et).symm
    rcases h3 with z | ⟨e, x, he, hx, z1, z2, z3⟩
    · exact absurd z.1 (h4 et3)
    · exact ⟨x, hx, z2, z3⟩
  have ec : ws_row vC (w * 6) 6 (w * 6 + 6 + p) + 1 = nI (ws_cnt wr p w + 1) := by
    rw [ws_row_hi vC (w * 6) p hp6, (hV' w p (Nat.le_refl w) hp6).1, nI_1]
  refine ⟨((nI n), (nI L), (nI (w + 1)), (nI ub), (upd (ws_row vV (w * 6) 6) (w * 6 + 6 + p) (it p)), (upd (ws_row vC (w * 6) 6) (w * 6 + 6 + p) (ws_row vC (w * 6) 6 (w * 6 + 6 + p) + 1)), (upd hV p (vw p)), H, (upd ph p 0), (upd st p (st p + 1)), it, sw, ew, lb, vw, co, nx, lc, mc, fc, rv),
    ((nI (w + 1)), (nI n), (nI L), (nI ub), (upd wr w (nI p)), (upd wn w (it p)), (upd ca w (yv p)), H, (upd ph p 0), (upd st p (st p + 1)), rd, it, sw, ew, lb, yv, ra), ?_, fun post h => wx_stepW hp6 hw e3 h, fun post h => wy_stepW hp6 hw e3 h⟩
  refine ws_S_i ⟨h2, h6, hL, hub, by omega, ?_, ?_, ?_⟩
  · rw [ec]
    exact ws_V_new hp6 hV'
  · rw [ex, ey]
    exact ws_H_new hp6 h6 hx hH
  · intro q hq
    have k := ws_P_ext (w' := w + 1) (wr' := upd wr w (nI p)) (by omega) (by omega) h6 (fun j v hv => ws_cnt_upd wr w (nI p) j v hv) (fun s _ => rfl) (fun j _ => rfl) (fun j _ => rfl) (fun j _ => rfl) (hP q hq)
    by_cases e : q = p
    · subst e
      rw [pk_us]
      exact ws_P_idle k
    · rw [pk_un e]
      exact k
theorem ws_other {q r : Nat} {A : Nat → Int32} {a b c d e f g i : Int32} (h2 : 2 ≤ n) (h6 : n ≤ 6) (hw : w ≤ 128) (hr : r < 64) (hq : q ≠ p)
    (h : ws_P n w wr (fun s => ra (q * 64 + s)) a b c d e f g i (fun j => mc (q * 6 + j)) (fun j => fc (q * 6 + j)) (fun j => rv (q * 6 + j))) :
    ws_P n w wr (fun s => upd ra (p * 64 + r) (nI w) (q * 64 + s)) a b c d e f g i (fun j => ws_MG n w r (p * 6) wr A mc (q * 6 + j)) (fun j => ws_FG n w r (p * 6) wr fc (q * 6 + j)) (fun j => upd rv (p * 6 + r % n) (nI w) (q * 6 + j)) := by
  have hml := ws_ml h2 r
  exact ws_P_ext (Nat.le_refl w) hw h6 (fun _ _ _ => rfl) (fun s hs => pk_un (ws_o64 hq hr hs)) (fun j hj => ws_MG_o _ _ _ _ _ _ _ _ (ws_o6 hq (by omega) hj)) (fun j hj => ws_FG_o _ _ _ _ _ _ _ (ws_o6 hq (by omega) hj)) (fun j hj => pk_un (ws_o6 hq (by omega) hj)) h
theorem ws_stepR (h : ws_R n L w ub vV vC hV ph ew vw co nx lc mc fc rv wr wn ca rd yv ra) (hp : p < n) {t t' : Nat} (et : ph p = nI t) (ht : (t = 1 ∧ t' = 0) ∨ (t = 2 ∧ t' = 3)) :
    ∃ u' v', ws_S n u' v' ∧ (∀ post, post u' → wpX_takeStep post ((nI n), (nI L), (nI w), (nI ub), vV, vC, hV, H, ph, st, it, sw, ew, lb, vw, co, nx, lc, mc, fc, rv) (nI p)) ∧ (∀ post, post v' → wpY_step post ((nI w), (nI n), (nI L), (nI ub), wr, wn, ca, H, ph, st, rd, it, sw, ew, lb, yv, ra) (nI p)) := by
  obtain ⟨h2, h6, hL, hub, hact, hV', hH, hP⟩ := h
  have hw : w ≤ 128 := by omega
  have hp6 : p < 6 := by omega
  have ht12 : t = 1 ∨ t = 2 := by omega
  have et3 : ¬ ph p = 3 := by
    rw [et]
    rcases ht12 with rfl | rfl <;> decide
  have ac := ws_act_upd ph p (nI t') n hp
  have eb : ws_b (ph p) = ws_b (nI t') := by
    rw [et]
    rcases ht with ⟨rfl, rfl⟩ | ⟨rfl, rfl⟩ <;> decide
  obtain ⟨r, t0, hr64, ht0, er, et0, h1, hT, h3, h4, h5⟩ := hP p hp
  have e0 : t0 = t := by
    rw [et] at et0
    exact ((nI_eq (by omega) (by omega)).mp et0).symm
  have hG := h5 (by omega)
  have hr : r < 64 := by
    have := ws_bound h2 h6 hG.2.2.2.2
    omega
  have hml := ws_ml h2 r
  have hne : (r < n ∨ ws_cnt wr (r % n) w < ws_cnt wr (r % n) (ra (p * 64 + r % n)).toNatClampNeg + 2) → n ≤ r → ws_cnt wr (r % n) w < ws_cnt wr (r % n) (ra (p * 64 + r % n)).toNatClampNeg + 2 := by
    intro z y
    omega
  by_cases cA : n ≤ r ∧ ws_cnt wr (r % n) (ra (p * 64 + r % n)).toNatClampNeg + 2 ≤ ws_cnt wr (r % n) w
  · obtain ⟨eh, x, hx, ex⟩ := hH (r % n) hml
    refine ⟨((nI n), (nI L), (nI w), (nI ub), vV, vC, hV, H, (upd ph p (nI t')), (upd st p (st p + 1)), it, sw, (upd ew p (nI w)), (upd lb p (nI (r % n))), (upd vw p (hV (r % n))), co, nx, lc, (ws_MG n w r (p * 6) wr (fun s => ra (p * 64 + s)) mc), (ws_FG n w r (p * 6) wr fc), (upd rv (p * 6 + r % n) (nI w))),
      ((nI w), (nI n), (nI L), (nI ub), wr, wn, ca, H, (upd ph p (nI t')), (upd st p (st p + 1)), (upd rd p (nI (r + 1))), it, sw, (upd ew p (nI w)), (upd lb p (nI (r % n))), (upd yv p (ws_last wr ca (r % n) w)), (upd ra (p * 64 + r) (nI w))), ?_, fun post h => ?_, fun post h => ?_⟩
    · refine ws_S_i ⟨h2, h6, hL, hub, by omega, hV', hH, ?_⟩
      intro q hq
      by_cases e : q = p
      · subst e
        rw [pk_us, pk_us, pk_us, pk_us, pk_us, ← eh, ex, ws_loc ra (q * 64) r (nI w), ws_MG_loc, ws_FG_loc, ws_loc rv (q * 6) (r % n) (nI w)]
        exact ws_P_end h2 hw hr (by omega) h1 hT hx _ _ _
      · rw [pk_un e, pk_un e, pk_un e, pk_un e, pk_un e]
        exact ws_other h2 h6 hw hr e (hP q hq)
    · exact wx_stepR hp6 et3 hG.2.1 (wx_read hp6 h2 h6 hw hr hV' h1 hT hG et ht (fun _ _ => h) (fun z => by omega) (fun _ z => by omega) (fun z => by omega))
    · exact wy_stepR hp6 et3 (wy_read hp h2 h6 hw hr er h1 et ht (fun _ _ => h) (fun z => by omega) (fun _ z => by omega) (fun z => by omega))
  · by_cases cB : r % n + 1 < n
    · refine ⟨((nI n), (nI L), (nI w), (nI ub), vV, vC, hV, H, ph, (upd st p (st p + 1)), it, sw, ew, lb, vw, co, (upd nx p (nI (r % n + 1))), lc, (ws_MG n w r (p * 6) wr (fun s => ra (p * 64 + s)) mc), (ws_FG n w r (p * 6) wr fc), (upd rv (p * 6 + r % n) (nI w))),
        ((nI w), (nI n), (nI L), (nI ub), wr, wn, ca, H, ph, (upd st p (st p + 1)), (upd rd p (nI (r + 1))), it, sw, ew, lb, yv, (upd ra (p * 64 + r) (nI w))), ?_, fun post h => ?_, fun post h => ?_⟩
      · refine ws_S_i ⟨h2, h6, hL, hub, by omega, hV', hH, ?_⟩
        intro q hq
        by_cases e : q = p
        · subst e
          rw [pk_us, pk_us, et, ws_loc ra (q * 64) r (nI w), ws_MG_loc, ws_FG_loc, ws_loc rv (q * 6) (r % n) (nI w)]
          exact ws_P_go h2 hw hr ht12 h1 hT h3 (ws_Go_B h2 h6 hw h1 hG (hne (by omega)) cB)
        · rw [pk_un e, pk_un e]
          exact ws_other h2 h6 hw hr e (hP q hq)
      · exact wx_stepR hp6 et3 hG.2.1 (wx_read hp6 h2 h6 hw hr hV' h1 hT hG et ht (fun z y => absurd ⟨z, y⟩ cA) (fun _ _ => h) (fun _ _ z => by omega) (fun _ z => by omega))
      · exact wy_stepR hp6 et3 (wy_read hp h2 h6 hw hr er h1 et ht (fun z y => absurd ⟨z, y⟩ cA) (fun _ _ => h) (fun _ _ z => by omega) (fun _ z => by omega))
    · have cN : r % n + 1 = n := by omega
      by_cases cD : r < n ∨ ∃ i, i < n ∧ ws_mv wr (upd (fun s => ra (p * 64 + s)) r (nI w)) n i (r + 1) = r / n + 1
      · refine ⟨((nI n), (nI L), (nI w), (nI ub), vV, vC, hV, H, ph, (upd st p (st p + 1)), it, sw, ew, lb, vw, (upd co p (nI (r / n + 2))), (upd nx p 0), (upd lc p (nI w)), (ws_MG n w r (p * 6) wr (fun s => ra (p * 64 + s)) mc), (ws_FG n w r (p * 6) wr fc), (upd rv (p * 6 + r % n) (nI w))),
          ((nI w), (nI n), (nI L), (nI ub), wr, wn, ca, H, ph, (upd st p (st p + 1)), (upd rd p (nI (r + 1))), it, sw, ew, lb, yv, (upd ra (p * 64 + r) (nI w))), ?_, fun post h => ?_, fun post h => ?_⟩
        · refine ws_S_i ⟨h2, h6, hL, hub, by omega, hV', hH, ?_⟩
          intro q hq
          by_cases e : q = p
          · subst e
            rw [pk_us, pk_us, pk_us, pk_us, et, ws_loc ra (q * 64) r (nI w), ws_MG_loc, ws_FG_loc, ws_loc rv (q * 6) (r % n) (nI w)]
            exact ws_P_go h2 hw hr ht12 h1 hT h3 (ws_Go_D h2 h6 hw h1 hG (hne (by omega)) cN (fun z => cD.resolve_left (by omega)))
          · rw [pk_un e, pk_un e, pk_un e, pk_un e]
            exact ws_other h2 h6 hw hr e (hP q hq)
        · exact wx_stepR hp6 et3 hG.2.1 (wx_read hp6 h2 h6 hw hr hV' h1 hT hG et ht (fun z y => absurd ⟨z, y⟩ cA) (fun _ z => by omega) (fun z _ _ y => absurd cD (fun c => c.elim (fun a => by omega) (fun ⟨i, hi, b⟩ => y i hi b))) (fun _ _ _ => h))
        · exact wy_stepR hp6 et3 (wy_read hp h2 h6 hw hr er h1 et ht (fun z y => absurd ⟨z, y⟩ cA) (fun _ z => by omega) (fun z _ _ y => absurd cD (fun c => c.elim (fun a => by omega) (fun ⟨i, hi, b⟩ => y i hi b))) (fun _ _ _ => h))
      · have hnr : n ≤ r := by
          by_cases c : n ≤ r
          · exact c
          · exact absurd (Or.inl (by omega)) cD
        obtain ⟨x, hx, ex⟩ := h1 (r - n) (by omega)
        have el : lc p = nI x := by
          rw [hG.2.2.1 hnr, (ws_dm2 h2 h6 r cN).2.2.2 hnr]
          exact ex
        refine ⟨((nI n), (nI L), (nI w), (nI ub), vV, vC, hV, H, (upd ph p (nI t')), (upd st p (st p + 1)), it, sw, (upd ew p (nI w)), (upd lb p (-7)), (upd vw p (lc p)), co, nx, lc, (ws_MG n w r (p * 6) wr (fun s => ra (p * 64 + s)) mc), (ws_FG n w r (p * 6) wr fc), (upd rv (p * 6 + r % n) (nI w))),
          ((nI w), (nI n), (nI L), (nI ub), wr, wn, ca, H, (upd ph p (nI t')), (upd st p (st p + 1)), (upd rd p (nI (r + 1))), it, sw, (upd ew p (nI w)), (upd lb p (-7)), (upd yv p (ra (p * 64 + (r - n)))), (upd ra (p * 64 + r) (nI w))), ?_, fun post h => ?_, fun post h => ?_⟩
        · refine ws_S_i ⟨h2, h6, hL, hub, by omega, hV', hH, ?_⟩
          intro q hq
          by_cases e : q = p
          · subst e
            rw [pk_us, pk_us, pk_us, pk_us, pk_us, el, show ra (q * 64 + (r - n)) = nI x from ex, ws_loc ra (q * 64) r (nI w), ws_MG_loc, ws_FG_loc, ws_loc rv (q * 6) (r % n) (nI w)]
            exact ws_P_end h2 hw hr (by omega) h1 hT hx _ _ _
          · rw [pk_un e, pk_un e, pk_un e, pk_un e, pk_un e]
            exact ws_other h2 h6 hw hr e (hP q hq)
        · exact wx_stepR hp6 et3 hG.2.1 (wx_read hp6 h2 h6 hw hr hV' h1 hT hG et ht (fun z y => absurd ⟨z, y⟩ cA) (fun _ z => by omega) (fun _ _ _ _ => h) (fun _ _ z => absurd z cD))
        · exact wy_stepR hp6 et3 (wy_read hp h2 h6 hw hr er h1 et ht (fun z y => absurd ⟨z, y⟩ cA) (fun _ z => by omega) (fun _ _ _ _ => h) (fun _ _ z => absurd z cD))
theorem ws_step (h : ws_R n L w ub vV vC hV ph ew vw co nx lc mc fc rv wr wn ca rd yv ra) (hp : p < n) (h0 : ¬ ph p = 0) :
    ∃ u' v', ws_S n u' v' ∧ (∀ post, post u' → wpX_takeStep post ((nI n), (nI L), (nI w), (nI ub), vV, vC, hV, H, ph, st, it, sw, ew, lb, vw, co, nx, lc, mc, fc, rv) (nI p)) ∧ (∀ post, post v' → wpY_step post ((nI w), (nI n), (nI L), (nI ub), wr, wn, ca, H, ph, st, rd, it, sw, ew, lb, yv, ra) (nI p)) := by
  obtain ⟨r, t, hr, ht, er, et, _⟩ := h.2.2.2.2.2.2.2 p hp
  have h4 : t = 0 ∨ t = 1 ∨ t = 2 ∨ t = 3 := by omega
  rcases h4 with rfl | rfl | rfl | rfl
  · exact absurd et h0
  · exact ws_stepR h hp (t' := 0) et (Or.inl ⟨rfl, rfl⟩)
  · exact ws_stepR h hp (t' := 3) et (Or.inr ⟨rfl, rfl⟩)
  · exact ws_stepW h hp et
end
end
section
/-! run and schedule, step by step on both sides -/
theorem ws_t {p : Nat} (hp : p < 774) {f : Nat → Int32} {x : Int32} (e : f p = x) : f (nI p).toNatClampNeg = x := (ws_r hp f).trans e
theorem ws_nt {p : Nat} (hp : p < 774) {f : Nat → Int32} {x : Int32} (e : ¬ f p = x) : ¬ f (nI p).toNatClampNeg = x := fun y => e ((ws_r hp f).symm.trans y)
section
variable {n L w ub : Nat} {vV vC hV H ph st it sw ew lb vw co nx lc mc fc rv wr wn ca rd yv ra : Nat → Int32} {p : Nat}
theorem ws_yidle {post : Int32 → SY → Prop} {kk K : Nat} {dn : Int32} (hp : p < 6) (hk : kk < 2 ^ 31) (hK : (kk ≤ 64 ∧ K = kk) ∨ (64 < kk ∧ K = 64)) (e0 : ph p = 0) (h : post dn ((nI w), (nI n), (nI L), (nI ub), wr, wn, ca, H, ph, st, rd, it, sw, ew, lb, yv, ra)) :
    ∀ d t : Nat, t + d = K → wY_run_44 post (nI p) (nI kk) (d + 1) dn (nI t) (nI w) (nI n) (nI L) (nI ub) wr wn ca H ph st rd it sw ew lb yv ra := by
  intro d
  induction d with
  | zero =>
    intro t ht
    by_cases z : kk ≤ t
    · exact br_t (nI_le z (by omega)) h
    · exact br_f (nI_ge (by omega) (by omega)) (br_t (nI_le (a := 64) (by omega) (by omega)) h)
  | succ d ih =>
    intro t ht
    refine br_f (nI_ge (by omega) (by omega)) (br_f (nI_ge (b := 64) (by omega) (by omega)) ⟨ws_in hp, ?_⟩)
    refine br_t (ws_t (f := ph) (by omega) (e0)) (nm_r (nI_1 t) ?_)
    exact ih (t + 1) (by omega)
theorem ws_run_lp {kk K : Nat} (hn : n ≤ 6) (hp : p < n) (hk : kk < 2 ^ 31) (hK : (kk ≤ 64 ∧ K = kk) ∨ (64 < kk ∧ K = 64)) : ∀ (d t : Nat) (u : SX) (v : SY), t + d = K → ws_S n u v →
    ∃ r u' v', ws_S n u' v' ∧ (∀ post, post r u' → wX_run_55 post (nI p) (nI K) (d + 1) (nI t) u.1 u.2.1 u.2.2.1 u.2.2.2.1 u.2.2.2.2.1 u.2.2.2.2.2.1 u.2.2.2.2.2.2.1 u.2.2.2.2.2.2.2.1 u.2.2.2.2.2.2.2.2.1 u.2.2.2.2.2.2.2.2.2.1 u.2.2.2.2.2.2.2.2.2.2.1 u.2.2.2.2.2.2.2.2.2.2.2.1 u.2.2.2.2.2.2.2.2.2.2.2.2.1 u.2.2.2.2.2.2.2.2.2.2.2.2.2.1 u.2.2.2.2.2.2.2.2.2.2.2.2.2.2.1 u.2.2.2.2.2.2.2.2.2.2.2.2.2.2.2.1 u.2.2.2.2.2.2.2.2.2.2.2.2.2.2.2.2.1 u.2.2.2.2.2.2.2.2.2.2.2.2.2.2.2.2.2.1 u.2.2.2.2.2.2.2.2.2.2.2.2.2.2.2.2.2.2.1 u.2.2.2.2.2.2.2.2.2.2.2.2.2.2.2.2.2.2.2.1 u.2.2.2.2.2.2.2.2.2.2.2.2.2.2.2.2.2.2.2.2) ∧ (∀ post, post r v' → wY_run_44 post (nI p) (nI kk) (d + 1) (nI t) (nI t) v.1 v.2.1 v.2.2.1 v.2.2.2.1 v.2.2.2.2.1 v.2.2.2.2.2.1 v.2.2.2.2.2.2.1 v.2.2.2.2.2.2.2.1 v.2.2.2.2.2.2.2.2.1 v.2.2.2.2.2.2.2.2.2.1 v.2.2.2.2.2.2.2.2.2.2.1 v.2.2.2.2.2.2.2.2.2.2.2.1 v.2.2.2.2.2.2.2.2.2.2.2.2.1 v.2.2.2.2.2.2.2.2.2.2.2.2.2.1 v.2.2.2.2.2.2.2.2.2.2.2.2.2.2.1 v.2.2.2.2.2.2.2.2.2.2.2.2.2.2.2.1 v.2.2.2.2.2.2.2.2.2.2.2.2.2.2.2.2) := by
  intro d
  induction d with
  | zero =>
    intro t u v ht hS
    refine ⟨nI t, u, v, hS, fun post h => ?_, fun post h => ?_⟩
    · obtain ⟨L, w, ub, vV, vC, hV, H, ph, st, it, sw, ew, lb, vw, co, nx, lc, mc, fc, rv, wr, wn, ca, rd, yv, ra, rfl, rfl, hR⟩ := hS
      exact br_t (nI_le (by omega) (by omega)) h
    · obtain ⟨L, w, ub, vV, vC, hV, H, ph, st, it, sw, ew, lb, vw, co, nx, lc, mc, fc, rv, wr, wn, ca, rd, yv, ra, rfl, rfl, hR⟩ := hS
      by_cases z : kk ≤ t
      · exact br_t (nI_le z (by omega)) h
      · exact br_f (nI_ge (by omega) (by omega)) (br_t (nI_le (a := 64) (by omega) (by omega)) h)
  | succ d ih =>
    intro t u v ht hS
    obtain ⟨L, w, ub, vV, vC, hV, H, ph, st, it, sw, ew, lb, vw, co, nx, lc, mc, fc, rv, wr, wn, ca, rd, yv, ra, rfl, rfl, hR⟩ := hS
    have hp6 : p < 6 := by omega
    by_cases e0 : ph p = 0
    · refine ⟨nI t, _, _, ws_S_i (H := H) (st := st) (it := it) (sw := sw) (lb := lb) hR, fun post h => ?_, fun post h => ?_⟩
      · exact br_f (nI_ge (by omega) (by omega)) ⟨ws_in hp6, br_t (ws_t (f := ph) (by omega) (e0)) h⟩
      · exact ws_yidle hp6 hk hK e0 h (d + 1) t ht
    · obtain ⟨u1, v1, hS1, sx, sy⟩ := ws_step (H := H) (st := st) (it := it) (sw := sw) (lb := lb) hR hp e0
      obtain ⟨r, u', v', hS', gx, gy⟩ := ih (t + 1) u1 v1 (by omega) hS1
      refine ⟨r, u', v', hS', fun post h => ?_, fun post h => ?_⟩
      · have g := gx post h
        obtain ⟨L1, w1, ub1, vV1, vC1, hV1, H1, ph1, st1, it1, sw1, ew1, lb1, vw1, co1, nx1, lc1, mc1, fc1, rv1, wr1, wn1, ca1, rd1, yv1, ra1, rfl, rfl, hR1⟩ := hS1
        refine br_f (nI_ge (by omega) (by omega)) ⟨ws_in hp6, br_f (ws_nt (f := ph) (by omega) (e0)) (sx _ ?_)⟩
        exact nm_r (nI_1 t) g
      · have g := gy post h
        obtain ⟨L1, w1, ub1, vV1, vC1, hV1, H1, ph1, st1, it1, sw1, ew1, lb1, vw1, co1, nx1, lc1, mc1, fc1, rv1, wr1, wn1, ca1, rd1, yv1, ra1, rfl, rfl, hR1⟩ := hS1
        refine br_f (nI_ge (by omega) (by omega)) (br_f (nI_ge (b := 64) (by omega) (by omega)) ⟨ws_in hp6, br_f (ws_nt (f := ph) (by omega) (e0)) (sy _ ?_)⟩)
        exact nm_r (nI_1 t) (nm_r (nI_1 t) g)
theorem ws_run (hR : ws_R n L w ub vV vC hV ph ew vw co nx lc mc fc rv wr wn ca rd yv ra) (v1 v2 : Int32) :
    ∃ r u' v', ws_S n u' v' ∧ (∀ post, post r u' → wpX_run post ((nI n), (nI L), (nI w), (nI ub), vV, vC, hV, H, ph, st, it, sw, ew, lb, vw, co, nx, lc, mc, fc, rv) v1 v2) ∧ (∀ post, post r v' → wpY_run post ((nI w), (nI n), (nI L), (nI ub), wr, wn, ca, H, ph, st, rd, it, sw, ew, lb, yv, ra) v1 v2) := by
  have h6 := hR.2.1
  rcases pk_ix v1 (show n < 2 ^ 31 by omega) with z | z | ⟨p, hp, rfl⟩
  · refine ⟨-1, _, _, ws_S_i (H := H) (st := st) (it := it) (sw := sw) (lb := lb) hR, fun post h => ?_, fun post h => ?_⟩
    · unfold wpX_run
      exact wx_out (Or.inl z) (br_t rfl h)
    · unfold wpY_run
      exact wy_out (Or.inl z) (br_f (by decide) h)
  · refine ⟨-1, _, _, ws_S_i (H := H) (st := st) (it := it) (sw := sw) (lb := lb) hR, fun post h => ?_, fun post h => ?_⟩
    · unfold wpX_run
      exact wx_out (Or.inr z) (br_t rfl h)
    · unfold wpY_run
      exact wy_out (Or.inr z) (br_f (by decide) h)
  · have hp6 : p < 6 := by omega
    by_cases k1 : 1 ≤ v2
    · by_cases eh : H p = 0
      · by_cases e0 : ph p = 0
        · refine ⟨-5, _, _, ws_S_i (H := H) (st := st) (it := it) (sw := sw) (lb := lb) hR, fun post h => ?_, fun post h => ?_⟩
          · unfold wpX_run
            exact wx_in hp h6 (br_f (by decide) (br_t k1 ⟨ws_in hp6, br_t (ws_t (f := H) (by omega) (eh)) ⟨ws_in hp6, br_t (ws_t (f := ph) (by omega) (e0)) h⟩⟩))
          · unfold wpY_run
            exact wy_in hp h6 (br_t rfl (br_t k1 ⟨ws_in hp6, br_t (ws_t (f := H) (by omega) (eh)) ⟨ws_in hp6, br_t (ws_t (f := ph) (by omega) (e0)) h⟩⟩))
        · obtain ⟨kk, hk, rfl⟩ := nI_of (x := v2) (fun y => Int32.lt_irrefl (Int32.lt_of_lt_of_le y (Int32.le_trans (by decide) k1)))
          have s0 := ws_S_i (H := H) (st := st) (it := it) (sw := sw) (lb := lb) hR
          by_cases c : kk ≤ 64
          · obtain ⟨r, u', v', hS', gx, gy⟩ := ws_run_lp (kk := kk) (K := kk) h6 hp hk (Or.inl ⟨c, rfl⟩) kk 0 _ _ (by omega) s0
            refine ⟨r, u', v', hS', fun post h => ?_, fun post h => ?_⟩
            · unfold wpX_run
              exact wx_in hp h6 (br_f (by decide) (br_t k1 ⟨ws_in hp6, br_t (ws_t (f := H) (by omega) (eh)) ⟨ws_in hp6, br_f (ws_nt (f := ph) (by omega) (e0)) (br_t (nI_le (b := 64) c (by decide)) ⟨_, gx post h⟩)⟩⟩))
            · unfold wpY_run
              exact wy_in hp h6 (br_t rfl (br_t k1 ⟨ws_in hp6, br_t (ws_t (f := H) (by omega) (eh)) ⟨ws_in hp6, br_f (ws_nt (f := ph) (by omega) (e0)) ⟨_, gy post h⟩⟩⟩))
          · obtain ⟨r, u', v', hS', gx, gy⟩ := ws_run_lp (kk := kk) (K := 64) h6 hp hk (Or.inr ⟨by omega, rfl⟩) 64 0 _ _ (by omega) s0
            refine ⟨r, u', v', hS', fun post h => ?_, fun post h => ?_⟩
            · unfold wpX_run
              exact wx_in hp h6 (br_f (by decide) (br_t k1 ⟨ws_in hp6, br_t (ws_t (f := H) (by omega) (eh)) ⟨ws_in hp6, br_f (ws_nt (f := ph) (by omega) (e0)) (br_f (nI_ge (a := 64) (by omega) (by omega)) ⟨_, gx post h⟩)⟩⟩))
            · unfold wpY_run
              exact wy_in hp h6 (br_t rfl (br_t k1 ⟨ws_in hp6, br_t (ws_t (f := H) (by omega) (eh)) ⟨ws_in hp6, br_f (ws_nt (f := ph) (by omega) (e0)) ⟨_, gy post h⟩⟩⟩))
      · refine ⟨-2, _, _, ws_S_i (H := H) (st := st) (it := it) (sw := sw) (lb := lb) hR, fun post h => ?_, fun post h => ?_⟩
        · unfold wpX_run
          exact wx_in hp h6 (br_f (by decide) (br_t k1 ⟨ws_in hp6, br_f (ws_nt (f := H) (by omega) (eh)) h⟩))
        · unfold wpY_run
          exact wy_in hp h6 (br_t rfl (br_t k1 ⟨ws_in hp6, br_f (ws_nt (f := H) (by omega) (eh)) h⟩))
    · refine ⟨-1, _, _, ws_S_i (H := H) (st := st) (it := it) (sw := sw) (lb := lb) hR, fun post h => ?_, fun post h => ?_⟩
      · unfold wpX_run
        exact wx_in hp h6 (br_f (by decide) (br_f k1 h))
      · unfold wpY_run
        exact wy_in hp h6 (br_t rfl (br_f k1 h))
theorem wx_can_t {post : Int32 → Prop} (h6 : n ≤ 6) (hp : p < n) (eh : H p = 0) (e0 : ¬ ph p = 0) (h : post 1) : wpX_canStep post ((nI n), (nI L), (nI w), (nI ub), vV, vC, hV, H, ph, st, it, sw, ew, lb, vw, co, nx, lc, mc, fc, rv) (nI p) := by
  unfold wpX_canStep
  exact wx_in hp h6 (br_f (by decide) ⟨ws_in (by omega), br_t (ws_t (f := H) (by omega) (eh)) ⟨ws_in (by omega), br_f (ws_nt (f := ph) (by omega) (e0)) h⟩⟩)
theorem wx_can_f {post : Int32 → Prop} (h6 : n ≤ 6) (hp : p < 2 ^ 31) (c : n ≤ p ∨ ¬ H p = 0 ∨ ph p = 0) (h : post 0) : wpX_canStep post ((nI n), (nI L), (nI w), (nI ub), vV, vC, hV, H, ph, st, it, sw, ew, lb, vw, co, nx, lc, mc, fc, rv) (nI p) := by
  unfold wpX_canStep
  by_cases z : n ≤ p
  · exact wx_out (Or.inr (nI_le z hp)) (br_t rfl h)
  · refine wx_in (by omega) h6 (br_f (by decide) ⟨ws_in (by omega), ?_⟩)
    by_cases eh : H p = 0
    · exact br_t (ws_t (f := H) (by omega) (eh)) ⟨ws_in (by omega), br_t (ws_t (f := ph) (by omega) ((c.resolve_left z).resolve_left (fun y => y eh))) h⟩
    · exact br_f (ws_nt (f := H) (by omega) (eh)) h
theorem ws_sch_lp (x1 : Int32) (h6 : n ≤ 6) : ∀ (d t : Nat) (dn : Int32) (u : SX) (v : SY), t + d = 8 → ws_S n u v →
    ∃ r u' v', ws_S n u' v' ∧ (∀ post, post r u' → wX_schedule_4 post x1 (d + 1) dn (nI t) u.1 u.2.1 u.2.2.1 u.2.2.2.1 u.2.2.2.2.1 u.2.2.2.2.2.1 u.2.2.2.2.2.2.1 u.2.2.2.2.2.2.2.1 u.2.2.2.2.2.2.2.2.1 u.2.2.2.2.2.2.2.2.2.1 u.2.2.2.2.2.2.2.2.2.2.1 u.2.2.2.2.2.2.2.2.2.2.2.1 u.2.2.2.2.2.2.2.2.2.2.2.2.1 u.2.2.2.2.2.2.2.2.2.2.2.2.2.1 u.2.2.2.2.2.2.2.2.2.2.2.2.2.2.1 u.2.2.2.2.2.2.2.2.2.2.2.2.2.2.2.1 u.2.2.2.2.2.2.2.2.2.2.2.2.2.2.2.2.1 u.2.2.2.2.2.2.2.2.2.2.2.2.2.2.2.2.2.1 u.2.2.2.2.2.2.2.2.2.2.2.2.2.2.2.2.2.2.1 u.2.2.2.2.2.2.2.2.2.2.2.2.2.2.2.2.2.2.2.1 u.2.2.2.2.2.2.2.2.2.2.2.2.2.2.2.2.2.2.2.2) ∧ (∀ post, post r v' → wY_schedule_4 post x1 (d + 1) dn (nI t) v.1 v.2.1 v.2.2.1 v.2.2.2.1 v.2.2.2.2.1 v.2.2.2.2.2.1 v.2.2.2.2.2.2.1 v.2.2.2.2.2.2.2.1 v.2.2.2.2.2.2.2.2.1 v.2.2.2.2.2.2.2.2.2.1 v.2.2.2.2.2.2.2.2.2.2.1 v.2.2.2.2.2.2.2.2.2.2.2.1 v.2.2.2.2.2.2.2.2.2.2.2.2.1 v.2.2.2.2.2.2.2.2.2.2.2.2.2.1 v.2.2.2.2.2.2.2.2.2.2.2.2.2.2.1 v.2.2.2.2.2.2.2.2.2.2.2.2.2.2.2.1 v.2.2.2.2.2.2.2.2.2.2.2.2.2.2.2.2) := by
  intro d
  induction d with
  | zero =>
    intro t dn u v ht hS
    refine ⟨dn, u, v, hS, fun post h => ?_, fun post h => ?_⟩
    · obtain ⟨L, w, ub, vV, vC, hV, H, ph, st, it, sw, ew, lb, vw, co, nx, lc, mc, fc, rv, wr, wn, ca, rd, yv, ra, rfl, rfl, hR⟩ := hS
      exact br_t (nI_le (a := 8) (by omega) (by omega)) h
    · obtain ⟨L, w, ub, vV, vC, hV, H, ph, st, it, sw, ew, lb, vw, co, nx, lc, mc, fc, rv, wr, wn, ca, rd, yv, ra, rfl, rfl, hR⟩ := hS
      exact br_t (nI_le (a := 8) (by omega) (by omega)) h
  | succ d ih =>
    intro t dn u v ht hS
    obtain ⟨p, hp16, ep⟩ := pk_andE ((x1.toUInt32 >>> ((nI t * 4).toUInt32 &&& Int32.toUInt32 31)).toInt32) (m := 15) 4 (by decide)
    have ep2 : ((x1.toUInt32 >>> ((4 * nI t).toUInt32 &&& Int32.toUInt32 31)).toInt32) &&& 15 = nI p := by
      rw [Int32.mul_comm 4 (nI t)]
      exact ep
    have hp16' : p < 16 := hp16
    have hS0 := hS
    obtain ⟨L, w, ub, vV, vC, hV, H, ph, st, it, sw, ew, lb, vw, co, nx, lc, mc, fc, rv, wr, wn, ca, rd, yv, ra, rfl, rfl, hR⟩ := hS
    by_cases c : n ≤ p ∨ ¬ H p = 0 ∨ ph p = 0
    · obtain ⟨r, u', v', hS', gx, gy⟩ := ih (t + 1) dn _ _ (by omega) hS0
      refine ⟨r, u', v', hS', fun post h => ?_, fun post h => ?_⟩
      · refine br_f (nI_ge (b := 8) (by omega) (by omega)) (nm_r ep ?_)
        exact wx_can_f h6 (by omega) c (br_t rfl (nm_r (nI_1 t) (gx post h)))
      · refine br_f (nI_ge (b := 8) (by omega) (by omega)) (nm_r ep2 ?_)
        by_cases z : n ≤ p
        · exact br_t (nI_le z (by omega)) (nm_r (nI_1 t) (gy post h))
        · refine br_f (nI_ge (by omega) (by omega)) ⟨ws_in (by omega), ?_⟩
          by_cases eh : H p = 0
          · exact br_t (ws_t (f := H) (by omega) (eh)) ⟨ws_in (by omega), br_t (ws_t (f := ph) (by omega) ((c.resolve_left z).resolve_left (fun y => y eh))) (nm_r (nI_1 t) (gy post h))⟩
          · exact br_f (ws_nt (f := H) (by omega) (eh)) (nm_r (nI_1 t) (gy post h))
    · have hpn : p < n := by
        by_cases z : n ≤ p
        · exact absurd (Or.inl z) c
        · omega
      have eh : H p = 0 := by
        by_cases z : H p = 0
        · exact z
        · exact absurd (Or.inr (Or.inl z)) c
      have e0 : ¬ ph p = 0 := fun z => c (Or.inr (Or.inr z))
      obtain ⟨u1, v1, hS1, sx, sy⟩ := ws_step (H := H) (st := st) (it := it) (sw := sw) (lb := lb) hR hpn e0
      obtain ⟨r, u', v', hS', gx, gy⟩ := ih (t + 1) (dn + 1) u1 v1 (by omega) hS1
      refine ⟨r, u', v', hS', fun post h => ?_, fun post h => ?_⟩
      · have g := gx post h
        obtain ⟨L1, w1, ub1, vV1, vC1, hV1, H1, ph1, st1, it1, sw1, ew1, lb1, vw1, co1, nx1, lc1, mc1, fc1, rv1, wr1, wn1, ca1, rd1, yv1, ra1, rfl, rfl, hR1⟩ := hS1
        refine br_f (nI_ge (b := 8) (by omega) (by omega)) (nm_r ep ?_)
        refine wx_can_t h6 hpn eh e0 (br_f (by decide) (sx _ ?_))
        exact nm_e (nm_r (nI_1 t) g)
      · have g := gy post h
        obtain ⟨L1, w1, ub1, vV1, vC1, hV1, H1, ph1, st1, it1, sw1, ew1, lb1, vw1, co1, nx1, lc1, mc1, fc1, rv1, wr1, wn1, ca1, rd1, yv1, ra1, rfl, rfl, hR1⟩ := hS1
        refine br_f (nI_ge (b := 8) (by omega) (by omega)) (nm_r ep2 ?_)
        refine br_f (nI_ge (by omega) (by omega)) ⟨ws_in (by omega), br_t (ws_t (f := H) (by omega) (eh)) ⟨ws_in (by omega), br_f (ws_nt (f := ph) (by omega) (e0)) (sy _ ?_)⟩⟩
        exact nm_e (nm_r (nI_1 t) g)
theorem ws_sch (hR : ws_R n L w ub vV vC hV ph ew vw co nx lc mc fc rv wr wn ca rd yv ra) (v1 : Int32) :
    ∃ r u' v', ws_S n u' v' ∧ (∀ post, post r u' → wpX_schedule post ((nI n), (nI L), (nI w), (nI ub), vV, vC, hV, H, ph, st, it, sw, ew, lb, vw, co, nx, lc, mc, fc, rv) v1) ∧ (∀ post, post r v' → wpY_schedule post ((nI w), (nI n), (nI L), (nI ub), wr, wn, ca, H, ph, st, rd, it, sw, ew, lb, yv, ra) v1) := by
  obtain ⟨r, u', v', hS', gx, gy⟩ := ws_sch_lp v1 hR.2.1 8 0 0 _ _ rfl (ws_S_i (H := H) (st := st) (it := it) (sw := sw) (lb := lb) hR)
  exact ⟨r, u', v', hS', fun post h => ⟨_, gx post h⟩, fun post h => ⟨_, gy post h⟩⟩
end
end
section
/-! begins, halt and what is told -/
section
variable {n L w ub : Nat} {vV vC hV H ph st it sw ew lb vw co nx lc mc fc rv wr wn ca rd yv ra : Nat → Int32} {p : Nat}
theorem wx_ref_out {post : Int32 → Prop} {x : Int32} (z : x < 0 ∨ nI n ≤ x) (h : post (-1)) : wpX_refusalToBegin post ((nI n), (nI L), (nI w), (nI ub), vV, vC, hV, H, ph, st, it, sw, ew, lb, vw, co, nx, lc, mc, fc, rv) x := by
  unfold wpX_refusalToBegin
  exact wx_out z (br_t rfl h)
theorem wx_ref_h {post : Int32 → Prop} (hp : p < n) (h6 : n ≤ 6) (eh : ¬ H p = 0) (h : post (-2)) : wpX_refusalToBegin post ((nI n), (nI L), (nI w), (nI ub), vV, vC, hV, H, ph, st, it, sw, ew, lb, vw, co, nx, lc, mc, fc, rv) (nI p) := by
  unfold wpX_refusalToBegin
  exact wx_in hp h6 (br_f (by decide) ⟨ws_in (by omega), br_f (ws_nt (f := H) (by omega) eh) h⟩)
theorem wx_ref_b {post : Int32 → Prop} (hp : p < n) (h6 : n ≤ 6) (eh : H p = 0) (e0 : ¬ ph p = 0) (h : post (-3)) : wpX_refusalToBegin post ((nI n), (nI L), (nI w), (nI ub), vV, vC, hV, H, ph, st, it, sw, ew, lb, vw, co, nx, lc, mc, fc, rv) (nI p) := by
  unfold wpX_refusalToBegin
  exact wx_in hp h6 (br_f (by decide) ⟨ws_in (by omega), br_t (ws_t (f := H) (by omega) eh) ⟨ws_in (by omega), br_f (ws_nt (f := ph) (by omega) e0) h⟩⟩)
theorem wx_ref_0 {post : Int32 → Prop} (hp : p < n) (h6 : n ≤ 6) (eh : H p = 0) (e0 : ph p = 0) (h : post 0) : wpX_refusalToBegin post ((nI n), (nI L), (nI w), (nI ub), vV, vC, hV, H, ph, st, it, sw, ew, lb, vw, co, nx, lc, mc, fc, rv) (nI p) := by
  unfold wpX_refusalToBegin
  exact wx_in hp h6 (br_f (by decide) ⟨ws_in (by omega), br_t (ws_t (f := H) (by omega) eh) ⟨ws_in (by omega), br_t (ws_t (f := ph) (by omega) e0) h⟩⟩)
theorem wy_begin {post : Int32 → SY → Prop} {t : Int32} (hp : p < 6) (h : post 0 ((nI w), (nI n), (nI L), (nI ub), wr, wn, ca, H, (upd ph p t), (upd st p 0), (upd rd p 0), it, (upd sw p (nI w)), (upd ew p (-6)), (upd lb p (-6)), yv, ra)) : wpY_begin post ((nI w), (nI n), (nI L), (nI ub), wr, wn, ca, H, ph, st, rd, it, sw, ew, lb, yv, ra) (nI p) t := by
  have i : vp_in (nI p) 6 := ws_in hp
  exact ⟨i, nm_r (ws_u (by omega) ph t) ⟨i, nm_r (ws_u (by omega) st 0) ⟨i, nm_r (ws_u (by omega) rd 0) ⟨i, nm_r (ws_u (by omega) sw (nI w)) ⟨i, nm_r (ws_u (by omega) ew (-6)) ⟨i, nm_r (ws_u (by omega) lb (-6)) h⟩⟩⟩⟩⟩⟩
theorem ws_begun {t ub' : Nat} (hR : ws_R n L w ub vV vC hV ph ew vw co nx lc mc fc rv wr wn ca rd yv ra) (hp : p < n) (e0 : ph p = 0) (ht : (t = 1 ∧ ub' = ub) ∨ (t = 2 ∧ ub' = ub + 1 ∧ ub < L)) :
    ws_R n L w ub' vV vC hV (upd ph p (nI t)) (upd ew p (-6)) (upd vw p (-6)) (upd co p 1) (upd nx p 0) lc (ws_fill mc (p * 6) 6 0) fc (ws_fill rv (p * 6) 6 (-6)) wr wn ca (upd rd p 0) yv ra := by
  obtain ⟨h2, h6, hL, hub, hact, hV', hH, hP⟩ := hR
  have ac := ws_act_upd ph p (nI t) n hp
  rw [e0, show ws_b 0 = 0 from by decide] at ac
  have bt : ws_b (nI t) = ub' - ub ∧ ub ≤ ub' ∧ ub' ≤ L := by
    rcases ht with ⟨rfl, rfl⟩ | ⟨rfl, rfl, z⟩
    · exact ⟨by rw [Nat.sub_self]; decide, by omega, by omega⟩
    · exact ⟨by rw [Nat.add_sub_cancel_left]; decide, by omega, by omega⟩
  refine ⟨h2, h6, hL, by omega, by omega, hV', hH, ?_⟩
  intro q hq
  by_cases e : q = p
  · subst e
    rw [pk_us, pk_us, pk_us, pk_us, pk_us, pk_us]
    exact ws_P_new h2 (by omega) (fun j hj => ws_fill_in mc (q * 6) 6 0 j hj) (fun j hj => ws_fill_in rv (q * 6) 6 (-6) j hj) h6
  · rw [pk_un e, pk_un e, pk_un e, pk_un e, pk_un e, pk_un e]
    exact ws_P_ext (Nat.le_refl w) (by omega) h6 (fun _ _ _ => rfl) (fun _ _ => rfl) (fun j hj => ws_fill_out _ _ _ _ _ (by omega)) (fun _ _ => rfl) (fun j hj => ws_fill_out _ _ _ _ _ (by omega)) (hP q hq)
theorem ws_scan (hR : ws_R n L w ub vV vC hV ph ew vw co nx lc mc fc rv wr wn ca rd yv ra) (v1 : Int32) :
    ∃ r u' v', ws_S n u' v' ∧ (∀ post, post r u' → wpX_beginScan post ((nI n), (nI L), (nI w), (nI ub), vV, vC, hV, H, ph, st, it, sw, ew, lb, vw, co, nx, lc, mc, fc, rv) v1) ∧ (∀ post, post r v' → wpY_beginScan post ((nI w), (nI n), (nI L), (nI ub), wr, wn, ca, H, ph, st, rd, it, sw, ew, lb, yv, ra) v1) := by
  have h6 := hR.2.1
  have s0 := ws_S_i (H := H) (st := st) (it := it) (sw := sw) (lb := lb) hR
  by_cases z : v1 < 0 ∨ nI n ≤ v1
  · refine ⟨-1, _, _, s0, fun post h => ?_, fun post h => ?_⟩
    · unfold wpX_beginScan
      exact wx_ref_out z (br_f (by decide) h)
    · unfold wpY_beginScan
      exact wy_out z (br_f (by decide) h)
  · obtain ⟨p, hp, rfl⟩ : ∃ p : Nat, p < n ∧ v1 = nI p := by
      rcases pk_ix v1 (show n < 2 ^ 31 by omega) with y | y | y
      · exact absurd (Or.inl y) z
      · exact absurd (Or.inr y) z
      · exact y
    have hp6 : p < 6 := by omega
    by_cases eh : H p = 0
    · by_cases e0 : ph p = 0
      · refine ⟨0, _, _, ws_S_i (H := H) (st := upd st p 0) (it := it) (sw := upd sw p (nI w)) (lb := upd lb p (-6)) (ws_begun (t := 1) hR hp e0 (Or.inl ⟨rfl, rfl⟩)), fun post h => ?_, fun post h => ?_⟩
        · unfold wpX_beginScan
          refine wx_ref_0 hp h6 eh e0 (br_t rfl ?_)
          exact wx_begin hp6 h
        · unfold wpY_beginScan
          refine wy_in hp h6 (br_t rfl ⟨ws_in hp6, br_t (ws_t (f := H) (by omega) eh) ⟨ws_in hp6, br_t (ws_t (f := ph) (by omega) e0) ?_⟩⟩)
          exact wy_begin hp6 h
      · refine ⟨-3, _, _, s0, fun post h => ?_, fun post h => ?_⟩
        · unfold wpX_beginScan
          exact wx_ref_b hp h6 eh e0 (br_f (by decide) h)
        · unfold wpY_beginScan
          exact wy_in hp h6 (br_t rfl ⟨ws_in hp6, br_t (ws_t (f := H) (by omega) eh) ⟨ws_in hp6, br_f (ws_nt (f := ph) (by omega) e0) h⟩⟩)
    · refine ⟨-2, _, _, s0, fun post h => ?_, fun post h => ?_⟩
      · unfold wpX_beginScan
        exact wx_ref_h hp h6 eh (br_f (by decide) h)
      · unfold wpY_beginScan
        exact wy_in hp h6 (br_t rfl ⟨ws_in hp6, br_f (ws_nt (f := H) (by omega) eh) h⟩)
theorem ws_update (hR : ws_R n L w ub vV vC hV ph ew vw co nx lc mc fc rv wr wn ca rd yv ra) (v1 v2 : Int32) :
    ∃ r u' v', ws_S n u' v' ∧ (∀ post, post r u' → wpX_beginUpdate post ((nI n), (nI L), (nI w), (nI ub), vV, vC, hV, H, ph, st, it, sw, ew, lb, vw, co, nx, lc, mc, fc, rv) v1 v2) ∧ (∀ post, post r v' → wpY_beginUpdate post ((nI w), (nI n), (nI L), (nI ub), wr, wn, ca, H, ph, st, rd, it, sw, ew, lb, yv, ra) v1 v2) := by
  have h6 := hR.2.1
  have hL := hR.2.2.1
  have hub := hR.2.2.2.1
  have s0 := ws_S_i (H := H) (st := st) (it := it) (sw := sw) (lb := lb) hR
  by_cases z : v1 < 0 ∨ nI n ≤ v1
  · refine ⟨-1, _, _, s0, fun post h => ?_, fun post h => ?_⟩
    · unfold wpX_beginUpdate
      exact wx_ref_out z (br_f (by decide) h)
    · unfold wpY_beginUpdate
      exact wy_out z (br_f (by decide) h)
  · obtain ⟨p, hp, rfl⟩ : ∃ p : Nat, p < n ∧ v1 = nI p := by
      rcases pk_ix v1 (show n < 2 ^ 31 by omega) with y | y | y
      · exact absurd (Or.inl y) z
      · exact absurd (Or.inr y) z
      · exact y
    have hp6 : p < 6 := by omega
    by_cases eh : H p = 0
    · by_cases e0 : ph p = 0
      · by_cases hf : ub < L
        · refine ⟨0, _, _, ws_S_i (H := H) (st := upd st p 0) (it := upd it p v2) (sw := upd sw p (nI w)) (lb := upd lb p (-6)) (ws_begun (t := 2) hR hp e0 (Or.inr ⟨rfl, rfl, hf⟩)), fun post h => ?_, fun post h => ?_⟩
          · unfold wpX_beginUpdate
            refine wx_ref_0 hp h6 eh e0 (br_t rfl (br_t (nI_lt hf (by omega)) (nm_r (nI_1 ub) ?_)))
            exact wx_begin hp6 ⟨ws_in hp6, nm_r (ws_u (by omega) it v2) h⟩
          · unfold wpY_beginUpdate
            refine wy_in hp h6 (br_t rfl ⟨ws_in hp6, br_t (ws_t (f := H) (by omega) eh) ⟨ws_in hp6, br_t (ws_t (f := ph) (by omega) e0) (br_t (nI_lt hf (by omega)) (nm_r (nI_1 ub) ⟨ws_in hp6, nm_r (ws_u (by omega) it v2) ?_⟩))⟩⟩)
            exact wy_begin hp6 h
        · refine ⟨-4, _, _, s0, fun post h => ?_, fun post h => ?_⟩
          · unfold wpX_beginUpdate
            exact wx_ref_0 hp h6 eh e0 (br_t rfl (br_f (nI_nlt (by omega) (by omega)) h))
          · unfold wpY_beginUpdate
            exact wy_in hp h6 (br_t rfl ⟨ws_in hp6, br_t (ws_t (f := H) (by omega) eh) ⟨ws_in hp6, br_t (ws_t (f := ph) (by omega) e0) (br_f (nI_nlt (by omega) (by omega)) h)⟩⟩)
      · refine ⟨-3, _, _, s0, fun post h => ?_, fun post h => ?_⟩
        · unfold wpX_beginUpdate
          exact wx_ref_b hp h6 eh e0 (br_f (by decide) h)
        · unfold wpY_beginUpdate
          exact wy_in hp h6 (br_t rfl ⟨ws_in hp6, br_t (ws_t (f := H) (by omega) eh) ⟨ws_in hp6, br_f (ws_nt (f := ph) (by omega) e0) h⟩⟩)
    · refine ⟨-2, _, _, s0, fun post h => ?_, fun post h => ?_⟩
      · unfold wpX_beginUpdate
        exact wx_ref_h hp h6 eh (br_f (by decide) h)
      · unfold wpY_beginUpdate
        exact wy_in hp h6 (br_t rfl ⟨ws_in hp6, br_f (ws_nt (f := H) (by omega) eh) h⟩)
theorem ws_halt (hR : ws_R n L w ub vV vC hV ph ew vw co nx lc mc fc rv wr wn ca rd yv ra) (v1 : Int32) :
    ∃ r u' v', ws_S n u' v' ∧ (∀ post, post r u' → wpX_halt post ((nI n), (nI L), (nI w), (nI ub), vV, vC, hV, H, ph, st, it, sw, ew, lb, vw, co, nx, lc, mc, fc, rv) v1) ∧ (∀ post, post r v' → wpY_halt post ((nI w), (nI n), (nI L), (nI ub), wr, wn, ca, H, ph, st, rd, it, sw, ew, lb, yv, ra) v1) := by
  have h6 := hR.2.1
  have s0 := ws_S_i (H := H) (st := st) (it := it) (sw := sw) (lb := lb) hR
  by_cases z : v1 < 0 ∨ nI n ≤ v1
  · refine ⟨-1, _, _, s0, fun post h => ?_, fun post h => ?_⟩
    · unfold wpX_halt
      exact wx_out z (br_t rfl h)
    · unfold wpY_halt
      exact wy_out z (br_f (by decide) h)
  · obtain ⟨p, hp, rfl⟩ : ∃ p : Nat, p < n ∧ v1 = nI p := by
      rcases pk_ix v1 (show n < 2 ^ 31 by omega) with y | y | y
      · exact absurd (Or.inl y) z
      · exact absurd (Or.inr y) z
      · exact y
    have hp6 : p < 6 := by omega
    by_cases eh : H p = 0
    · refine ⟨0, _, _, ws_S_i (H := upd H p (vp_nar .boolean 1)) (st := st) (it := it) (sw := sw) (lb := lb) hR, fun post h => ?_, fun post h => ?_⟩
      · unfold wpX_halt
        exact wx_in hp h6 (br_f (by decide) ⟨ws_in hp6, br_t (ws_t (f := H) (by omega) eh) ⟨ws_in hp6, nm_r (ws_u (by omega) H _) h⟩⟩)
      · unfold wpY_halt
        exact wy_in hp h6 (br_t rfl ⟨ws_in hp6, br_t (ws_t (f := H) (by omega) eh) ⟨ws_in hp6, nm_r (ws_u (by omega) H _) h⟩⟩)
    · refine ⟨-2, _, _, s0, fun post h => ?_, fun post h => ?_⟩
      · unfold wpX_halt
        exact wx_in hp h6 (br_f (by decide) ⟨ws_in hp6, br_f (ws_nt (f := H) (by omega) eh) h⟩)
      · unfold wpY_halt
        exact wy_in hp h6 (br_t rfl ⟨ws_in hp6, br_f (ws_nt (f := H) (by omega) eh) h⟩)
end
end
section
/-! what the getters tell -/
theorem ws_where {n : Nat} (h6 : n ≤ 6) (x : Int32) : (x < 0 ∨ nI n ≤ x) ∨ ∃ p : Nat, p < n ∧ x = nI p := by
  rcases pk_ix x (show n < 2 ^ 31 by omega) with y | y | y
  · exact Or.inl (Or.inl y)
  · exact Or.inl (Or.inr y)
  · exact Or.inr y
section
variable {n L w ub : Nat} {vV vC hV H ph st it sw ew lb vw co nx lc mc fc rv wr wn ca rd yv ra : Nat → Int32} {p : Nat}
theorem ws_phase (h6 : n ≤ 6) (v1 : Int32) : ∃ r, (∀ post, post r → wpX_phase post ((nI n), (nI L), (nI w), (nI ub), vV, vC, hV, H, ph, st, it, sw, ew, lb, vw, co, nx, lc, mc, fc, rv) v1) ∧ (∀ post, post r → wpY_phase post ((nI w), (nI n), (nI L), (nI ub), wr, wn, ca, H, ph, st, rd, it, sw, ew, lb, yv, ra) v1) := by
  rcases ws_where h6 v1 with z | ⟨p, hp, rfl⟩
  · refine ⟨-1, fun post h => ?_, fun post h => ?_⟩
    · unfold wpX_phase
      exact wx_out z (br_t rfl h)
    · unfold wpY_phase
      exact wy_out z (br_f (by decide) h)
  · by_cases eh : H p = 0
    · refine ⟨ph (nI p).toNatClampNeg, fun post h => ?_, fun post h => ?_⟩
      · unfold wpX_phase
        exact wx_in hp h6 (br_f (by decide) ⟨ws_in (by omega), br_t (ws_t (f := H) (by omega) eh) ⟨ws_in (by omega), h⟩⟩)
      · unfold wpY_phase
        exact wy_in hp h6 (br_t rfl ⟨ws_in (by omega), br_t (ws_t (f := H) (by omega) eh) ⟨ws_in (by omega), h⟩⟩)
    · refine ⟨ph (nI p).toNatClampNeg + 4, fun post h => ?_, fun post h => ?_⟩
      · unfold wpX_phase
        exact wx_in hp h6 (br_f (by decide) ⟨ws_in (by omega), br_f (ws_nt (f := H) (by omega) eh) ⟨ws_in (by omega), h⟩⟩)
      · unfold wpY_phase
        exact wy_in hp h6 (br_t rfl ⟨ws_in (by omega), br_f (ws_nt (f := H) (by omega) eh) ⟨ws_in (by omega), h⟩⟩)
theorem ws_steps (h6 : n ≤ 6) (v1 : Int32) : ∃ r, (∀ post, post r → wpX_steps post ((nI n), (nI L), (nI w), (nI ub), vV, vC, hV, H, ph, st, it, sw, ew, lb, vw, co, nx, lc, mc, fc, rv) v1) ∧ (∀ post, post r → wpY_steps post ((nI w), (nI n), (nI L), (nI ub), wr, wn, ca, H, ph, st, rd, it, sw, ew, lb, yv, ra) v1) := by
  rcases ws_where h6 v1 with z | ⟨p, hp, rfl⟩
  · refine ⟨-1, fun post h => ?_, fun post h => ?_⟩
    · unfold wpX_steps
      exact wx_out z (br_t rfl h)
    · unfold wpY_steps
      exact wy_out z (br_f (by decide) h)
  · refine ⟨st (nI p).toNatClampNeg, fun post h => ?_, fun post h => ?_⟩
    · unfold wpX_steps
      exact wx_in hp h6 (br_f (by decide) ⟨ws_in (by omega), h⟩)
    · unfold wpY_steps
      exact wy_in hp h6 (br_t rfl ⟨ws_in (by omega), h⟩)
theorem ws_startedAt (h6 : n ≤ 6) (v1 : Int32) : ∃ r, (∀ post, post r → wpX_startedAt post ((nI n), (nI L), (nI w), (nI ub), vV, vC, hV, H, ph, st, it, sw, ew, lb, vw, co, nx, lc, mc, fc, rv) v1) ∧ (∀ post, post r → wpY_startedAt post ((nI w), (nI n), (nI L), (nI ub), wr, wn, ca, H, ph, st, rd, it, sw, ew, lb, yv, ra) v1) := by
  rcases ws_where h6 v1 with z | ⟨p, hp, rfl⟩
  · refine ⟨-1, fun post h => ?_, fun post h => ?_⟩
    · unfold wpX_startedAt
      exact wx_out z (br_t rfl h)
    · unfold wpY_startedAt
      exact wy_out z (br_f (by decide) h)
  · refine ⟨sw (nI p).toNatClampNeg, fun post h => ?_, fun post h => ?_⟩
    · unfold wpX_startedAt
      exact wx_in hp h6 (br_f (by decide) ⟨ws_in (by omega), h⟩)
    · unfold wpY_startedAt
      exact wy_in hp h6 (br_t rfl ⟨ws_in (by omega), h⟩)
theorem ws_endedAt (h6 : n ≤ 6) (v1 : Int32) : ∃ r, (∀ post, post r → wpX_endedAt post ((nI n), (nI L), (nI w), (nI ub), vV, vC, hV, H, ph, st, it, sw, ew, lb, vw, co, nx, lc, mc, fc, rv) v1) ∧ (∀ post, post r → wpY_endedAt post ((nI w), (nI n), (nI L), (nI ub), wr, wn, ca, H, ph, st, rd, it, sw, ew, lb, yv, ra) v1) := by
  rcases ws_where h6 v1 with z | ⟨p, hp, rfl⟩
  · refine ⟨-1, fun post h => ?_, fun post h => ?_⟩
    · unfold wpX_endedAt
      exact wx_out z (br_t rfl h)
    · unfold wpY_endedAt
      exact wy_out z (br_f (by decide) h)
  · refine ⟨ew (nI p).toNatClampNeg, fun post h => ?_, fun post h => ?_⟩
    · unfold wpX_endedAt
      exact wx_in hp h6 (br_f (by decide) ⟨ws_in (by omega), h⟩)
    · unfold wpY_endedAt
      exact wy_in hp h6 (br_t rfl ⟨ws_in (by omega), h⟩)
theorem ws_lender (h6 : n ≤ 6) (v1 : Int32) : ∃ r, (∀ post, post r → wpX_lender post ((nI n), (nI L), (nI w), (nI ub), vV, vC, hV, H, ph, st, it, sw, ew, lb, vw, co, nx, lc, mc, fc, rv) v1) ∧ (∀ post, post r → wpY_lender post ((nI w), (nI n), (nI L), (nI ub), wr, wn, ca, H, ph, st, rd, it, sw, ew, lb, yv, ra) v1) := by
  rcases ws_where h6 v1 with z | ⟨p, hp, rfl⟩
  · refine ⟨-1, fun post h => ?_, fun post h => ?_⟩
    · unfold wpX_lender
      exact wx_out z (br_t rfl h)
    · unfold wpY_lender
      exact wy_out z (br_f (by decide) h)
  · refine ⟨lb (nI p).toNatClampNeg, fun post h => ?_, fun post h => ?_⟩
    · unfold wpX_lender
      exact wx_in hp h6 (br_f (by decide) ⟨ws_in (by omega), h⟩)
    · unfold wpY_lender
      exact wy_in hp h6 (br_t rfl ⟨ws_in (by omega), h⟩)
theorem wx_int1 {post : Int32 → Prop} (hp : p < 6) (h : post (it (nI p).toNatClampNeg)) : wX_intent_30 post (nI p) (nI n) (nI L) (nI w) (nI ub) vV vC hV H ph st it sw ew lb vw co nx lc mc fc rv := by
  unfold wX_intent_30
  exact br_f (by decide) ⟨ws_in hp, h⟩
theorem ws_intent (h6 : n ≤ 6) (v1 : Int32) : ∃ r, (∀ post, post r → wpX_intent post ((nI n), (nI L), (nI w), (nI ub), vV, vC, hV, H, ph, st, it, sw, ew, lb, vw, co, nx, lc, mc, fc, rv) v1) ∧ (∀ post, post r → wpY_intent post ((nI w), (nI n), (nI L), (nI ub), wr, wn, ca, H, ph, st, rd, it, sw, ew, lb, yv, ra) v1) := by
  rcases ws_where h6 v1 with z | ⟨p, hp, rfl⟩
  · refine ⟨0, fun post h => ?_, fun post h => ?_⟩
    · unfold wpX_intent
      exact wx_out z (br_t rfl h)
    · unfold wpY_intent
      exact wy_out z (br_f (by decide) h)
  · have hp6 : p < 6 := by omega
    by_cases e2 : ph p = 2
    · refine ⟨it (nI p).toNatClampNeg, fun post h => ?_, fun post h => ?_⟩
      · unfold wpX_intent
        exact wx_in hp h6 (br_f (by decide) ⟨ws_in hp6, br_t (ws_t (f := ph) (by omega) e2) (wx_int1 hp6 h)⟩)
      · unfold wpY_intent
        exact wy_in hp h6 (br_t rfl ⟨ws_in hp6, br_t (ws_t (f := ph) (by omega) e2) ⟨ws_in hp6, h⟩⟩)
    · by_cases e3 : ph p = 3
      · refine ⟨it (nI p).toNatClampNeg, fun post h => ?_, fun post h => ?_⟩
        · unfold wpX_intent
          exact wx_in hp h6 (br_f (by decide) ⟨ws_in hp6, br_f (ws_nt (f := ph) (by omega) e2) ⟨ws_in hp6, br_t (ws_t (f := ph) (by omega) e3) (wx_int1 hp6 h)⟩⟩)
        · unfold wpY_intent
          exact wy_in hp h6 (br_t rfl ⟨ws_in hp6, br_f (ws_nt (f := ph) (by omega) e2) ⟨ws_in hp6, br_t (ws_t (f := ph) (by omega) e3) ⟨ws_in hp6, h⟩⟩⟩)
      · refine ⟨0, fun post h => ?_, fun post h => ?_⟩
        · unfold wpX_intent
          exact wx_in hp h6 (br_f (by decide) ⟨ws_in hp6, br_f (ws_nt (f := ph) (by omega) e2) ⟨ws_in hp6, br_f (ws_nt (f := ph) (by omega) e3) (br_t rfl h)⟩⟩)
        · unfold wpY_intent
          exact wy_in hp h6 (br_t rfl ⟨ws_in hp6, br_f (ws_nt (f := ph) (by omega) e2) ⟨ws_in hp6, br_f (ws_nt (f := ph) (by omega) e3) h⟩⟩)
theorem ws_movedIn (hR : ws_R n L w ub vV vC hV ph ew vw co nx lc mc fc rv wr wn ca rd yv ra) (v1 v2 : Int32) : ∃ r, (∀ post, post r → wpX_movedIn post ((nI n), (nI L), (nI w), (nI ub), vV, vC, hV, H, ph, st, it, sw, ew, lb, vw, co, nx, lc, mc, fc, rv) v1 v2) ∧ (∀ post, post r → wpY_movedIn post ((nI w), (nI n), (nI L), (nI ub), wr, wn, ca, H, ph, st, rd, it, sw, ew, lb, yv, ra) v1 v2) := by
  obtain ⟨h2, h6, hL, hub, hact, hV', hH, hP⟩ := hR
  rcases ws_where h6 v1 with z | ⟨p, hp, rfl⟩
  · refine ⟨-1, fun post h => ?_, fun post h => ?_⟩
    · unfold wpX_movedIn
      exact wx_out z (br_t rfl h)
    · unfold wpY_movedIn
      exact wy_out z (br_f (by decide) h)
  · rcases ws_where h6 v2 with z | ⟨j, hj, rfl⟩
    · refine ⟨-1, fun post h => ?_, fun post h => ?_⟩
      · unfold wpX_movedIn
        exact wx_in hp h6 (br_f (by decide) (wx_out z (br_t rfl h)))
      · unfold wpY_movedIn
        exact wy_in hp h6 (br_t rfl (wy_out z (br_f (by decide) h)))
    · obtain ⟨r, t, hr, ht, er, et, h1, hT, _⟩ := hP p hp
      refine ⟨nI (ws_mv wr (fun s => ra (p * 64 + s)) n j r), fun post h => ?_, fun post h => ?_⟩
      · unfold wpX_movedIn
        refine wx_in hp h6 (br_f (by decide) (wx_in hj h6 (br_f (by decide) (wx_pair ⟨ws_in (by omega), ?_⟩))))
        rw [ws_r (by omega) mc, show mc (p * 6 + j) = _ from (hT j hj).2]
        exact h
      · exact wy_movedIn hp h2 h6 hj hr er (by omega) h1 h
theorem wx_told_i {post : Int32 → Prop} {k x y : Int32} (z : x < 0 ∨ nI n ≤ x) (h : post (-1)) : wpX_versionTold post ((nI n), (nI L), (nI w), (nI ub), vV, vC, hV, H, ph, st, it, sw, ew, lb, vw, co, nx, lc, mc, fc, rv) k x y := by
  unfold wpX_versionTold
  exact wx_out z (br_t rfl h)
theorem wx_told_j {post : Int32 → Prop} {k y : Int32} (hp : p < n) (h6 : n ≤ 6) (z : y < 0 ∨ nI n ≤ y) (h : post (-1)) : wpX_versionTold post ((nI n), (nI L), (nI w), (nI ub), vV, vC, hV, H, ph, st, it, sw, ew, lb, vw, co, nx, lc, mc, fc, rv) k (nI p) y := by
  unfold wpX_versionTold
  exact wx_in hp h6 (br_f (by decide) (wx_out z (br_t rfl h)))
theorem wx_told_k {post : Int32 → Prop} {k : Int32} {j : Nat} (hp : p < n) (hj : j < n) (h6 : n ≤ 6) (z : k < 0 ∨ 3 < k) (h : post (-1)) : wpX_versionTold post ((nI n), (nI L), (nI w), (nI ub), vV, vC, hV, H, ph, st, it, sw, ew, lb, vw, co, nx, lc, mc, fc, rv) k (nI p) (nI j) := by
  unfold wpX_versionTold
  refine wx_in hp h6 (br_f (by decide) (wx_in hj h6 (br_f (by decide) ?_)))
  by_cases y : k < 0
  · exact br_t y h
  · exact br_f y (br_t (z.resolve_left y) h)
theorem ws_kind (k : Int32) : (k < 0 ∨ 3 < k) ∨ k = 0 ∨ k = 1 ∨ k = 2 ∨ k = 3 := by
  by_cases y : k < 0
  · exact Or.inl (Or.inl y)
  · by_cases z : 3 < k
    · exact Or.inl (Or.inr z)
    · obtain ⟨j, hj, rfl⟩ := nI_of2 (M := 3) (n := 3) (by decide) y (Int32.not_lt.mp z)
      have h4 : j = 0 ∨ j = 1 ∨ j = 2 ∨ j = 3 := by omega
      rcases h4 with rfl | rfl | rfl | rfl
      · exact Or.inr (Or.inl rfl)
      · exact Or.inr (Or.inr (Or.inl rfl))
      · exact Or.inr (Or.inr (Or.inr (Or.inl rfl)))
      · exact Or.inr (Or.inr (Or.inr (Or.inr rfl)))
/-- kinds 0 to 3, both numbers in range: one version is told on both sides -/
theorem ws_told (hR : ws_R n L w ub vV vC hV ph ew vw co nx lc mc fc rv wr wn ca rd yv ra) {j : Nat} (hp : p < n) (hj : j < n) (k : Int32) (hk : k = 0 ∨ k = 1 ∨ k = 2 ∨ k = 3) :
    ∃ r, (r = -6 ∨ ∃ a, a ≤ w ∧ r = nI a) ∧ (∀ post, post r → wpX_versionTold post ((nI n), (nI L), (nI w), (nI ub), vV, vC, hV, H, ph, st, it, sw, ew, lb, vw, co, nx, lc, mc, fc, rv) k (nI p) (nI j)) ∧ (∀ post, post r → wpY_versionFor post ((nI w), (nI n), (nI L), (nI ub), wr, wn, ca, H, ph, st, rd, it, sw, ew, lb, yv, ra) k (nI p) (nI j)) := by
  obtain ⟨h2, h6, hL, hub, hact, hV', hH, hP⟩ := hR
  have hp6 : p < 6 := by omega
  have hw : w ≤ 128 := by omega
  obtain ⟨r, t, hr, ht, er, et, h1, hT, h3, _⟩ := hP p hp
  rcases hk with rfl | rfl | rfl | rfl
  · refine ⟨vw p, ?_, fun post h => ?_, fun post h => ?_⟩
    · rcases h3 with ⟨_, a⟩ | ⟨e, x, he, hx, _, b, _⟩
      · exact Or.inl a
      · exact Or.inr ⟨x, hx, b⟩
    · unfold wpX_versionTold
      refine wx_in hp h6 (br_f (by decide) (wx_in hj h6 (br_f (by decide) (br_f (by decide) (br_f (by decide) (br_t rfl ⟨ws_in hp6, ?_⟩))))))
      rw [ws_r (by omega) vw]
      exact h
    · unfold wpY_versionFor
      refine br_f (by decide) (br_f (by decide) (br_t rfl ⟨ws_in hp6, ?_⟩))
      rw [ws_r (by omega) ew]
      rcases h3 with ⟨a, b⟩ | ⟨e, x, he, hx, a, b, c⟩
      · rw [a]
        rw [b] at h
        exact br_f (by decide) h
      · rw [a]
        refine br_t (nI_pos' (by omega)) ⟨ws_in hp6, ?_⟩
        rw [ws_r (by omega) yv, c, ← b]
        exact h
  · obtain ⟨eh, x, hx, ex⟩ := hH p hp
    refine ⟨hV p, Or.inr ⟨x, hx, ex⟩, fun post h => ?_, fun post h => ?_⟩
    · unfold wpX_versionTold
      refine wx_in hp h6 (br_f (by decide) (wx_in hj h6 (br_f (by decide) (br_f (by decide) (br_f (by decide) (br_f (by decide) (br_t rfl ⟨ws_in hp6, ?_⟩)))))))
      rw [ws_r (by omega) hV]
      exact h
    · unfold wpY_versionFor
      rw [eh] at h
      exact br_f (by decide) (br_t rfl (wy_heldBy hw h))
  · refine ⟨nI w, Or.inr ⟨w, Nat.le_refl w, rfl⟩, fun post h => ?_, fun post h => ?_⟩
    · unfold wpX_versionTold
      exact wx_in hp h6 (br_f (by decide) (wx_in hj h6 (br_f (by decide) (br_f (by decide) (br_f (by decide) (br_f (by decide) (br_f (by decide) (br_t rfl h))))))))
    · unfold wpY_versionFor
      exact br_t rfl h
  · refine ⟨ws_rd (fun s => ra (p * 64 + s)) n j r, ?_, fun post h => ?_, fun post h => ?_⟩
    · rcases ws_rd_none (fun s => ra (p * 64 + s)) n j r with a | ⟨s, hs, a⟩
      · exact Or.inl a
      · obtain ⟨b, hb, eb⟩ := h1 s hs
        exact Or.inr ⟨b, hb, a.trans eb⟩
    · unfold wpX_versionTold
      refine wx_in hp h6 (br_f (by decide) (wx_in hj h6 (br_f (by decide) (br_f (by decide) (br_f (by decide) (br_f (by decide) (br_f (by decide) (br_f (by decide) (br_t rfl (wx_pair ⟨ws_in (by omega), ?_⟩))))))))))
      rw [ws_r (by omega) rv, show rv (p * 6 + j) = _ from (hT j hj).1]
      exact h
    · unfold wpY_versionFor
      exact br_f (by decide) (br_f (by decide) (br_f (by decide) ⟨r + 1, wy_reads_lp hp6 h2 h6 hj hr er r 0 (by omega) h⟩))
theorem ws_value (hR : ws_R n L w ub vV vC hV ph ew vw co nx lc mc fc rv wr wn ca rd yv ra) (v1 v2 v3 : Int32) : ∃ r, (∀ post, post r → wpX_value post ((nI n), (nI L), (nI w), (nI ub), vV, vC, hV, H, ph, st, it, sw, ew, lb, vw, co, nx, lc, mc, fc, rv) v1 v2 v3) ∧ (∀ post, post r → wpY_value post ((nI w), (nI n), (nI L), (nI ub), wr, wn, ca, H, ph, st, rd, it, sw, ew, lb, yv, ra) v1 v2 v3) := by
  have h6 := hR.2.1
  have hk := ws_kind v1
  by_cases bad : v1 < 0 ∨ 3 < v1 ∨ (v2 < 0 ∨ nI n ≤ v2) ∨ (v3 < 0 ∨ nI n ≤ v3)
  · refine ⟨0, fun post h => ?_, fun post h => ?_⟩
    · unfold wpX_value
      rcases ws_where h6 v2 with z | ⟨p, hp, rfl⟩
      · exact wx_told_i z (br_f (by decide) h)
      · rcases ws_where h6 v3 with z | ⟨j, hj, rfl⟩
        · exact wx_told_j hp h6 z (br_f (by decide) h)
        · refine wx_told_k hp hj h6 ?_ (br_f (by decide) h)
          rcases bad with b | b | b | b
          · exact Or.inl b
          · exact Or.inr b
          · exact absurd b (fun c => c.elim (fun d => nI_pos (by omega) d) (fun d => nI_ge hp (by omega) d))
          · exact absurd b (fun c => c.elim (fun d => nI_pos (by omega) d) (fun d => nI_ge hj (by omega) d))
    · unfold wpY_value
      by_cases b1 : v1 < 0
      · exact br_t b1 h
      · refine br_f b1 ?_
        by_cases b2 : 3 < v1
        · exact br_t b2 h
        · refine br_f b2 ?_
          rcases ws_where h6 v2 with z | ⟨p, hp, rfl⟩
          · exact wy_out z (br_f (by decide) h)
          · refine wy_in hp h6 (br_t rfl ?_)
            rcases ws_where h6 v3 with z | ⟨j, hj, rfl⟩
            · exact wy_out z (br_f (by decide) h)
            · rcases bad with b | b | b | b
              · exact absurd b b1
              · exact absurd b b2
              · exact absurd b (fun c => c.elim (fun d => nI_pos (by omega) d) (fun d => nI_ge hp (by omega) d))
              · exact absurd b (fun c => c.elim (fun d => nI_pos (by omega) d) (fun d => nI_ge hj (by omega) d))
  · have b1 : ¬ v1 < 0 := fun b => bad (Or.inl b)
    have b2 : ¬ 3 < v1 := fun b => bad (Or.inr (Or.inl b))
    obtain ⟨p, hp, rfl⟩ := (ws_where h6 v2).resolve_left (fun b => bad (Or.inr (Or.inr (Or.inl b))))
    obtain ⟨j, hj, rfl⟩ := (ws_where h6 v3).resolve_left (fun b => bad (Or.inr (Or.inr (Or.inr b))))
    have hk2 := hk.resolve_left (fun b => b.elim b1 b2)
    obtain ⟨r, hr, gx, gy⟩ := ws_told (H := H) (st := st) (it := it) (sw := sw) (lb := lb) hR hp hj v1 hk2
    obtain ⟨h2, h6, hL, hub, hact, hV', hH, hP⟩ := hR
    rcases hr with rfl | ⟨a, ha, rfl⟩
    · refine ⟨0, fun post h => ?_, fun post h => ?_⟩
      · unfold wpX_value
        exact gx _ (br_f (by decide) h)
      · unfold wpY_value
        exact br_f b1 (br_f b2 (wy_in hp h6 (br_t rfl (wy_in hj h6 (br_t rfl (gy _ (br_f (by decide) h)))))))
    · refine ⟨ws_last wr wn j a, fun post h => ?_, fun post h => ?_⟩
      · unfold wpX_value
        refine gx _ (br_t (nI_pos' (by omega)) (wx_cell ⟨ws_in (by omega), ?_⟩))
        rw [ws_r (by omega) vV, (hV' a j ha (by omega)).2]
        exact h
      · unfold wpY_value
        exact br_f b1 (br_f b2 (wy_in hp h6 (br_t rfl (wy_in hj h6 (br_t rfl (gy _ (br_t (nI_pos' (by omega)) (wy_valueAt (by omega) h))))))))
theorem ws_count (hR : ws_R n L w ub vV vC hV ph ew vw co nx lc mc fc rv wr wn ca rd yv ra) (v1 v2 v3 : Int32) : ∃ r, (∀ post, post r → wpX_count post ((nI n), (nI L), (nI w), (nI ub), vV, vC, hV, H, ph, st, it, sw, ew, lb, vw, co, nx, lc, mc, fc, rv) v1 v2 v3) ∧ (∀ post, post r → wpY_count post ((nI w), (nI n), (nI L), (nI ub), wr, wn, ca, H, ph, st, rd, it, sw, ew, lb, yv, ra) v1 v2 v3) := by
  have h6 := hR.2.1
  have hk := ws_kind v1
  by_cases bad : v1 < 0 ∨ 3 < v1 ∨ (v2 < 0 ∨ nI n ≤ v2) ∨ (v3 < 0 ∨ nI n ≤ v3)
  · refine ⟨-1, fun post h => ?_, fun post h => ?_⟩
    · unfold wpX_count
      rcases ws_where h6 v2 with z | ⟨p, hp, rfl⟩
      · exact wx_told_i z (br_f (by decide) h)
      · rcases ws_where h6 v3 with z | ⟨j, hj, rfl⟩
        · exact wx_told_j hp h6 z (br_f (by decide) h)
        · refine wx_told_k hp hj h6 ?_ (br_f (by decide) h)
          rcases bad with b | b | b | b
          · exact Or.inl b
          · exact Or.inr b
          · exact absurd b (fun c => c.elim (fun d => nI_pos (by omega) d) (fun d => nI_ge hp (by omega) d))
          · exact absurd b (fun c => c.elim (fun d => nI_pos (by omega) d) (fun d => nI_ge hj (by omega) d))
    · unfold wpY_count
      by_cases b1 : v1 < 0
      · exact br_t b1 h
      · refine br_f b1 ?_
        by_cases b2 : 3 < v1
        · exact br_t b2 h
        · refine br_f b2 ?_
          rcases ws_where h6 v2 with z | ⟨p, hp, rfl⟩
          · exact wy_out z (br_f (by decide) h)
          · refine wy_in hp h6 (br_t rfl ?_)
            rcases ws_where h6 v3 with z | ⟨j, hj, rfl⟩
            · exact wy_out z (br_f (by decide) h)
            · rcases bad with b | b | b | b
              · exact absurd b b1
              · exact absurd b b2
              · exact absurd b (fun c => c.elim (fun d => nI_pos (by omega) d) (fun d => nI_ge hp (by omega) d))
              · exact absurd b (fun c => c.elim (fun d => nI_pos (by omega) d) (fun d => nI_ge hj (by omega) d))
  · have b1 : ¬ v1 < 0 := fun b => bad (Or.inl b)
    have b2 : ¬ 3 < v1 := fun b => bad (Or.inr (Or.inl b))
    obtain ⟨p, hp, rfl⟩ := (ws_where h6 v2).resolve_left (fun b => bad (Or.inr (Or.inr (Or.inl b))))
    obtain ⟨j, hj, rfl⟩ := (ws_where h6 v3).resolve_left (fun b => bad (Or.inr (Or.inr (Or.inr b))))
    have hk2 := hk.resolve_left (fun b => b.elim b1 b2)
    obtain ⟨r, hr, gx, gy⟩ := ws_told (H := H) (st := st) (it := it) (sw := sw) (lb := lb) hR hp hj v1 hk2
    obtain ⟨h2, h6, hL, hub, hact, hV', hH, hP⟩ := hR
    rcases hr with rfl | ⟨a, ha, rfl⟩
    · refine ⟨-6, fun post h => ?_, fun post h => ?_⟩
      · unfold wpX_count
        exact gx _ (br_f (by decide) h)
      · unfold wpY_count
        exact br_f b1 (br_f b2 (wy_in hp h6 (br_t rfl (wy_in hj h6 (br_t rfl (gy _ (br_f (by decide) h)))))))
    · refine ⟨nI (ws_cnt wr j a), fun post h => ?_, fun post h => ?_⟩
      · unfold wpX_count
        refine gx _ (br_t (nI_pos' (by omega)) (wx_cell ⟨ws_in (by omega), ?_⟩))
        rw [ws_r (by omega) vC, (hV' a j ha (by omega)).1]
        exact h
      · unfold wpY_count
        exact br_f b1 (br_f b2 (wy_in hp h6 (br_t rfl (wy_in hj h6 (br_t rfl (gy _ (br_t (nI_pos' (by omega)) (wy_countAt (by omega) h))))))))
theorem ws_version (hR : ws_R n L w ub vV vC hV ph ew vw co nx lc mc fc rv wr wn ca rd yv ra) (v1 v2 : Int32) : ∃ r, (∀ post, post r → wpX_version post ((nI n), (nI L), (nI w), (nI ub), vV, vC, hV, H, ph, st, it, sw, ew, lb, vw, co, nx, lc, mc, fc, rv) v1 v2) ∧ (∀ post, post r → wpY_version post ((nI w), (nI n), (nI L), (nI ub), wr, wn, ca, H, ph, st, rd, it, sw, ew, lb, yv, ra) v1 v2) := by
  have h2 := hR.1
  have h6 := hR.2.1
  have hk := ws_kind v1
  rcases ws_where h6 v2 with z | ⟨p, hp, rfl⟩
  · refine ⟨-1, fun post h => ?_, fun post h => ?_⟩
    · unfold wpX_version wX_version_16
      by_cases e3 : v1 = 3
      · exact br_t e3 (wx_out z (br_t rfl (wx_told_i z h)))
      · exact br_f e3 (wx_told_i z h)
    · unfold wpY_version
      by_cases b1 : v1 < 0
      · exact br_t b1 h
      · by_cases b2 : 3 < v1
        · exact br_f b1 (br_t b2 h)
        · exact br_f b1 (br_f b2 (wy_out z (br_f (by decide) h)))
  · rcases hk with b | hk
    · have e3 : ¬ v1 = 3 := by
        intro e
        subst e
        revert b
        decide
      refine ⟨-1, fun post h => ?_, fun post h => ?_⟩
      · unfold wpX_version wX_version_16
        exact br_f e3 (wx_told_k (j := 0) hp (by omega) h6 b h)
      · unfold wpY_version
        by_cases b1 : v1 < 0
        · exact br_t b1 h
        · exact br_f b1 (br_t (b.resolve_left b1) h)
    · have b1 : ¬ v1 < 0 := by rcases hk with rfl | rfl | rfl | rfl <;> decide
      have b2 : ¬ 3 < v1 := by rcases hk with rfl | rfl | rfl | rfl <;> decide
      by_cases e3 : v1 = 3
      · refine ⟨-6, fun post h => ?_, fun post h => ?_⟩
        · unfold wpX_version
          exact br_t e3 (wx_in hp h6 (br_f (by decide) h))
        · unfold wpY_version
          exact br_f b1 (br_f b2 (wy_in hp h6 (br_t rfl (br_t e3 h))))
      · obtain ⟨r, hr, gx, gy⟩ := ws_told (H := H) (st := st) (it := it) (sw := sw) (lb := lb) hR hp (show 0 < n by omega) v1 hk
        refine ⟨r, fun post h => ?_, fun post h => ?_⟩
        · unfold wpX_version wX_version_16
          exact br_f e3 (gx _ h)
        · unfold wpY_version
          exact br_f b1 (br_f b2 (wy_in hp h6 (br_t rfl (br_f e3 (gy _ h)))))
end
end
section
/-! the start -/
theorem ws_cl (lo hi : Nat) (hl : lo ≤ hi) (hh : hi < 2 ^ 31) (x : Int32) : ∃ m : Nat, lo ≤ m ∧ m ≤ hi ∧ ((nI lo ≤ x ∧ x ≤ nI hi ∧ x = nI m) ∨ (nI lo ≤ x ∧ ¬ x ≤ nI hi ∧ m = hi) ∨ (¬ nI lo ≤ x ∧ m = lo)) := by
  by_cases a : nI lo ≤ x
  · by_cases b : x ≤ nI hi
    · have c : ¬ x < 0 := fun y => Int32.lt_irrefl (Int32.lt_of_lt_of_le y (Int32.le_trans (nI_pos' (show lo < 2 ^ 31 by omega)) a))
      obtain ⟨m, hm, rfl⟩ := nI_of c
      rw [nI_leI (by omega) hm] at a
      rw [nI_leI hm hh] at b
      exact ⟨m, a, b, Or.inl ⟨(nI_leI (by omega) hm).mpr a, (nI_leI hm hh).mpr b, rfl⟩⟩
    · exact ⟨hi, hl, Nat.le_refl hi, Or.inr (Or.inl ⟨a, b, rfl⟩)⟩
  · exact ⟨lo, Nat.le_refl lo, hl, Or.inr (Or.inr ⟨a, rfl⟩)⟩
theorem wx_clamp {post : Int32 → Prop} {x : Int32} {lo hi m : Nat} (c : (nI lo ≤ x ∧ x ≤ nI hi ∧ x = nI m) ∨ (nI lo ≤ x ∧ ¬ x ≤ nI hi ∧ m = hi) ∨ (¬ nI lo ≤ x ∧ m = lo)) (h : post (nI m)) : wpX_clamp post x (nI lo) (nI hi) := by
  unfold wpX_clamp
  rcases c with ⟨a, b, e⟩ | ⟨a, b, e⟩ | ⟨a, e⟩
  · rw [← e] at h
    exact br_t a (br_t b h)
  · subst e
    exact br_t a (br_f b h)
  · subst e
    exact br_f a h
theorem ws_uz (k : Nat) : upd (fun _ => 0) k 0 = fun _ => 0 := by
  funext x
  show (if x = k then (0 : Int32) else 0) = 0
  split <;> rfl
theorem ws_fz (b k : Nat) : ws_fill (fun _ => 0) b k 0 = fun _ => 0 := by
  funext x
  show (if _ then (0 : Int32) else 0) = 0
  split <;> rfl
theorem ws_f0 (f : Nat → Int32) (k : Nat) (c : Int32) : upd (ws_fill f 0 k c) k c = ws_fill f 0 (k + 1) c := by
  have e := ws_fill_s f 0 k c
  rw [Nat.zero_add] at e
  exact e
theorem ws_fr (f : Nat → Int32) (k : Nat) (c : Int32) : ws_fill (ws_fill f 0 (k * 6) c) (k * 6) 6 c = ws_fill f 0 ((k + 1) * 6) c := by
  funext x
  by_cases z : k * 6 ≤ x ∧ x < k * 6 + 6
  · have a : ws_fill (ws_fill f 0 (k * 6) c) (k * 6) 6 c x = c := if_pos z
    have b : ws_fill f 0 ((k + 1) * 6) c x = c := if_pos (by omega)
    rw [a, b]
  · have a : ws_fill (ws_fill f 0 (k * 6) c) (k * 6) 6 c x = ws_fill f 0 (k * 6) c x := if_neg z
    rw [a]
    by_cases y : 0 ≤ x ∧ x < 0 + k * 6
    · have b : ws_fill f 0 ((k + 1) * 6) c x = c := if_pos (by omega)
      have d : ws_fill f 0 (k * 6) c x = c := if_pos y
      rw [b, d]
    · have b : ws_fill f 0 ((k + 1) * 6) c x = f x := if_neg (by omega)
      have d : ws_fill f 0 (k * 6) c x = f x := if_neg y
      rw [b, d]
def ws_z : Nat → Int32 := fun _ => 0
section
variable {n L : Nat}
theorem wx_init_lp {post : SX → Prop} : ∀ d k : Nat, k + d = 6 →
    post ((nI n), (nI L), (nI 0), (nI 0), ws_z, ws_z, ws_z, ws_z, ws_z, ws_z, ws_z, (ws_fill ws_z 0 6 (-6)), (ws_fill ws_z 0 6 (-6)), (ws_fill ws_z 0 6 (-6)), (ws_fill ws_z 0 6 (-6)), (ws_fill ws_z 0 6 1), ws_z, ws_z, ws_z, ws_z, (ws_fill ws_z 0 (6 * 6) (-6))) →
    wX_init_167 post (d + 1) (nI k) (nI n) (nI L) (nI 0) (nI 0) ws_z ws_z ws_z ws_z ws_z ws_z ws_z (ws_fill ws_z 0 k (-6)) (ws_fill ws_z 0 k (-6)) (ws_fill ws_z 0 k (-6)) (ws_fill ws_z 0 k (-6)) (ws_fill ws_z 0 k 1) ws_z ws_z ws_z ws_z (ws_fill ws_z 0 (k * 6) (-6)) := by
  intro d
  induction d with
  | zero =>
    intro k hk h
    have e : k = 6 := by omega
    subst e
    exact br_t (nI_le (a := 6) (b := 6) (by omega) (by omega)) h
  | succ d ih =>
    intro k hk h
    have hk6 : k < 6 := by omega
    have g := ih (k + 1) (by omega) h
    have z1 : upd ws_z k 0 = ws_z := ws_uz k
    have z2 : ws_fill ws_z (k * 6) 6 0 = ws_z := ws_fz (k * 6) 6
    rw [← ws_fr ws_z k (-6), ← ws_f0 ws_z k 1, ← ws_f0 ws_z k (-6)] at g
    refine br_f (nI_ge (a := k) (b := 6) (by omega) (by omega)) (wx_forget hk6 ⟨ws_in hk6, nm_r (ws_u (by omega) _ (-6)) (nm_r (nI_1 k) ?_)⟩)
    rw [z1, z2]
    exact g
theorem wy_init_lp {post : SY → Prop} : ∀ d k : Nat, k + d = 6 →
    post ((nI 0), (nI n), (nI L), (nI 0), ws_z, ws_z, ws_z, ws_z, ws_z, ws_z, ws_z, ws_z, (ws_fill ws_z 0 6 (-6)), (ws_fill ws_z 0 6 (-6)), (ws_fill ws_z 0 6 (-6)), ws_z, ws_z) →
    wY_init_166 post (nI 0) (nI n) (nI L) (nI 0) (d + 1) (nI k) ws_z ws_z ws_z ws_z ws_z ws_z ws_z ws_z (ws_fill ws_z 0 k (-6)) (ws_fill ws_z 0 k (-6)) (ws_fill ws_z 0 k (-6)) ws_z ws_z := by
  intro d
  induction d with
  | zero =>
    intro k hk h
    have e : k = 6 := by omega
    subst e
    exact br_t (nI_le (a := 6) (b := 6) (by omega) (by omega)) h
  | succ d ih =>
    intro k hk h
    have hk6 : k < 6 := by omega
    have g := ih (k + 1) (by omega) h
    have e : upd (ws_fill ws_z 0 k (-6)) (nI k).toNatClampNeg (-6) = ws_fill ws_z 0 (k + 1) (-6) := by
      rw [ws_u (by omega)]
      exact ws_f0 ws_z k (-6)
    exact br_f (nI_ge (a := k) (b := 6) (by omega) (by omega)) ⟨ws_in hk6, nm_r e ⟨ws_in hk6, nm_r e ⟨ws_in hk6, nm_r e (nm_r (nI_1 k) g)⟩⟩⟩
theorem ws_R0 (h2 : 2 ≤ n) (h6 : n ≤ 6) (hL : L ≤ 128) : ws_R n L 0 0 ws_z ws_z ws_z ws_z (ws_fill ws_z 0 6 (-6)) (ws_fill ws_z 0 6 (-6)) (ws_fill ws_z 0 6 1) ws_z ws_z ws_z ws_z (ws_fill ws_z 0 (6 * 6) (-6)) ws_z ws_z ws_z ws_z ws_z ws_z := by
  refine ⟨h2, h6, hL, by omega, ?_, ws_V_init, ws_H_init n, ?_⟩
  · rw [show ws_act ws_z n = 0 from ws_act_0 n]
    exact Nat.le_refl 0
  · intro p hp
    have a : ws_fill ws_z 0 6 (-6) p = -6 := if_pos (by omega)
    rw [a]
    exact ws_P_init (fun j hj => rfl) (fun j hj => if_pos (by omega)) h6
theorem wx_init {post : SX → Prop} {x y : Int32} (c : (nI 2 ≤ x ∧ x ≤ nI 6 ∧ x = nI n) ∨ (nI 2 ≤ x ∧ ¬ x ≤ nI 6 ∧ n = 6) ∨ (¬ nI 2 ≤ x ∧ n = 2)) (d : (nI 4 ≤ y ∧ y ≤ nI 128 ∧ y = nI L) ∨ (nI 4 ≤ y ∧ ¬ y ≤ nI 128 ∧ L = 128) ∨ (¬ nI 4 ≤ y ∧ L = 4))
    (h : post ((nI n), (nI L), (nI 0), (nI 0), ws_z, ws_z, ws_z, ws_z, ws_z, ws_z, ws_z, (ws_fill ws_z 0 6 (-6)), (ws_fill ws_z 0 6 (-6)), (ws_fill ws_z 0 6 (-6)), (ws_fill ws_z 0 6 (-6)), (ws_fill ws_z 0 6 1), ws_z, ws_z, ws_z, ws_z, (ws_fill ws_z 0 (6 * 6) (-6)))) : wpX_init post x y := by
  unfold wpX_init
  refine wx_clamp (lo := 2) (hi := 6) (m := n) c ?_
  refine wx_clamp (lo := 4) (hi := 128) (m := L) d ?_
  have g := wx_init_lp (post := post) 6 0 rfl h
  rw [Nat.zero_mul, ws_fill_0, ws_fill_0] at g
  exact ⟨7, g⟩
theorem wy_init_b {post : SY → Prop} {y : Int32} (d : (nI 4 ≤ y ∧ y ≤ nI 128 ∧ y = nI L) ∨ (nI 4 ≤ y ∧ ¬ y ≤ nI 128 ∧ L = 128) ∨ (¬ nI 4 ≤ y ∧ L = 4))
    (h : post ((nI 0), (nI n), (nI L), (nI 0), ws_z, ws_z, ws_z, ws_z, ws_z, ws_z, ws_z, ws_z, (ws_fill ws_z 0 6 (-6)), (ws_fill ws_z 0 6 (-6)), (ws_fill ws_z 0 6 (-6)), ws_z, ws_z)) :
    wY_init_134 post y (nI n) 0 0 0 0 ws_z ws_z ws_z ws_z ws_z ws_z ws_z ws_z ws_z ws_z ws_z ws_z ws_z := by
  have g := wy_init_lp (post := post) 6 0 rfl h
  rw [ws_fill_0] at g
  rcases d with ⟨a, b, e⟩ | ⟨a, b, e⟩ | ⟨a, e⟩
  · rw [← e] at g
    exact br_t a (br_t b ⟨7, g⟩)
  · subst e
    exact br_t a (br_f b ⟨7, g⟩)
  · subst e
    exact br_f a ⟨7, g⟩
theorem wy_init {post : SY → Prop} {x y : Int32} (c : (nI 2 ≤ x ∧ x ≤ nI 6 ∧ x = nI n) ∨ (nI 2 ≤ x ∧ ¬ x ≤ nI 6 ∧ n = 6) ∨ (¬ nI 2 ≤ x ∧ n = 2)) (d : (nI 4 ≤ y ∧ y ≤ nI 128 ∧ y = nI L) ∨ (nI 4 ≤ y ∧ ¬ y ≤ nI 128 ∧ L = 128) ∨ (¬ nI 4 ≤ y ∧ L = 4))
    (h : post ((nI 0), (nI n), (nI L), (nI 0), ws_z, ws_z, ws_z, ws_z, ws_z, ws_z, ws_z, ws_z, (ws_fill ws_z 0 6 (-6)), (ws_fill ws_z 0 6 (-6)), (ws_fill ws_z 0 6 (-6)), ws_z, ws_z)) : wpY_init post x y := by
  have g := wy_init_b (post := post) d h
  unfold wpY_init
  rcases c with ⟨a, b, e⟩ | ⟨a, b, e⟩ | ⟨a, e⟩
  · rw [← e] at g
    exact br_t a (br_t b g)
  · subst e
    exact br_t a (br_f b g)
  · subst e
    exact br_f a g
end
end
section
/-! what is owed -/
/-- the relation: one number of processes, and the two states alike -/
def i_Rel (_ : Nat) (u : SX) (v : SY) : Prop := ∃ n, ws_S n u v
theorem i_up {k : Nat} {u : SX} {v : SY} (h : i_Rel k u v) : i_Rel (k + 4) u v := h
theorem i_vc0 (k0 : Int32) (k1 : Int32) : wpX_init (fun u => wpY_init (fun v => i_Rel 2 u v) k0 k1) k0 k1 := by
  obtain ⟨n, h2, h6, c⟩ := ws_cl 2 6 (by omega) (by omega) k0
  obtain ⟨L, h4, hL, d⟩ := ws_cl 4 128 (by omega) (by omega) k1
  exact wx_init c d (wy_init c d ⟨n, ws_S_i (ws_R0 h2 h6 hL)⟩)
theorem i_vc_beginScan {k : Nat} {u : SX} {v : SY} (I : i_Rel k u v) (hk : k + 4 ≤ 2050) (v1 : Int32) : wpX_beginScan (fun r u' => wpY_beginScan (fun r' v' => r' = r ∧ i_Rel (k + 4) u' v') v v1) u v1 := by
  obtain ⟨n, L, w, ub, vV, vC, hV, H, ph, st, it, sw, ew, lb, vw, co, nx, lc, mc, fc, rv, wr, wn, ca, rd, yv, ra, rfl, rfl, hR⟩ := I
  obtain ⟨r, u1, v1', s, gx, gy⟩ := ws_scan (H := H) (st := st) (it := it) (sw := sw) (lb := lb) hR v1
  exact gx _ (gy _ ⟨rfl, n, s⟩)
theorem i_vc_beginUpdate {k : Nat} {u : SX} {v : SY} (I : i_Rel k u v) (hk : k + 4 ≤ 2050) (v1 : Int32) (v2 : Int32) : wpX_beginUpdate (fun r u' => wpY_beginUpdate (fun r' v' => r' = r ∧ i_Rel (k + 4) u' v') v v1 v2) u v1 v2 := by
  obtain ⟨n, L, w, ub, vV, vC, hV, H, ph, st, it, sw, ew, lb, vw, co, nx, lc, mc, fc, rv, wr, wn, ca, rd, yv, ra, rfl, rfl, hR⟩ := I
  obtain ⟨r, u1, v1', s, gx, gy⟩ := ws_update (H := H) (st := st) (it := it) (sw := sw) (lb := lb) hR v1 v2
  exact gx _ (gy _ ⟨rfl, n, s⟩)
theorem i_vc_run {k : Nat} {u : SX} {v : SY} (I : i_Rel k u v) (hk : k + 4 ≤ 2050) (v1 : Int32) (v2 : Int32) : wpX_run (fun r u' => wpY_run (fun r' v' => r' = r ∧ i_Rel (k + 4) u' v') v v1 v2) u v1 v2 := by
  obtain ⟨n, L, w, ub, vV, vC, hV, H, ph, st, it, sw, ew, lb, vw, co, nx, lc, mc, fc, rv, wr, wn, ca, rd, yv, ra, rfl, rfl, hR⟩ := I
  obtain ⟨r, u1, v1', s, gx, gy⟩ := ws_run (H := H) (st := st) (it := it) (sw := sw) (lb := lb) hR v1 v2
  exact gx _ (gy _ ⟨rfl, n, s⟩)
theorem i_vc_schedule {k : Nat} {u : SX} {v : SY} (I : i_Rel k u v) (hk : k + 4 ≤ 2050) (v1 : Int32) : wpX_schedule (fun r u' => wpY_schedule (fun r' v' => r' = r ∧ i_Rel (k + 4) u' v') v v1) u v1 := by
  obtain ⟨n, L, w, ub, vV, vC, hV, H, ph, st, it, sw, ew, lb, vw, co, nx, lc, mc, fc, rv, wr, wn, ca, rd, yv, ra, rfl, rfl, hR⟩ := I
  obtain ⟨r, u1, v1', s, gx, gy⟩ := ws_sch (H := H) (st := st) (it := it) (sw := sw) (lb := lb) hR v1
  exact gx _ (gy _ ⟨rfl, n, s⟩)
theorem i_vc_halt {k : Nat} {u : SX} {v : SY} (I : i_Rel k u v) (hk : k + 4 ≤ 2050) (v1 : Int32) : wpX_halt (fun r u' => wpY_halt (fun r' v' => r' = r ∧ i_Rel (k + 4) u' v') v v1) u v1 := by
  obtain ⟨n, L, w, ub, vV, vC, hV, H, ph, st, it, sw, ew, lb, vw, co, nx, lc, mc, fc, rv, wr, wn, ca, rd, yv, ra, rfl, rfl, hR⟩ := I
  obtain ⟨r, u1, v1', s, gx, gy⟩ := ws_halt (H := H) (st := st) (it := it) (sw := sw) (lb := lb) hR v1
  exact gx _ (gy _ ⟨rfl, n, s⟩)
theorem i_vc_phase {k : Nat} {u : SX} {v : SY} (I : i_Rel k u v) (hk : k + 4 ≤ 2050) (v1 : Int32) : wpX_phase (fun r => wpY_phase (fun r' => r' = r ∧ i_Rel (k + 4) u v) v v1) u v1 := by
  obtain ⟨n, L, w, ub, vV, vC, hV, H, ph, st, it, sw, ew, lb, vw, co, nx, lc, mc, fc, rv, wr, wn, ca, rd, yv, ra, rfl, rfl, hR⟩ := I
  obtain ⟨r, gx, gy⟩ := ws_phase (L := L) (w := w) (ub := ub) (vV := vV) (vC := vC) (hV := hV) (H := H) (ph := ph) (st := st) (it := it) (sw := sw) (ew := ew) (lb := lb) (vw := vw) (co := co) (nx := nx) (lc := lc) (mc := mc) (fc := fc) (rv := rv) (wr := wr) (wn := wn) (ca := ca) (rd := rd) (yv := yv) (ra := ra) hR.2.1 v1
  exact gx _ (gy _ ⟨rfl, n, ws_S_i hR⟩)
theorem i_vc_steps {k : Nat} {u : SX} {v : SY} (I : i_Rel k u v) (hk : k + 4 ≤ 2050) (v1 : Int32) : wpX_steps (fun r => wpY_steps (fun r' => r' = r ∧ i_Rel (k + 4) u v) v v1) u v1 := by
  obtain ⟨n, L, w, ub, vV, vC, hV, H, ph, st, it, sw, ew, lb, vw, co, nx, lc, mc, fc, rv, wr, wn, ca, rd, yv, ra, rfl, rfl, hR⟩ := I
  obtain ⟨r, gx, gy⟩ := ws_steps (L := L) (w := w) (ub := ub) (vV := vV) (vC := vC) (hV := hV) (H := H) (ph := ph) (st := st) (it := it) (sw := sw) (ew := ew) (lb := lb) (vw := vw) (co := co) (nx := nx) (lc := lc) (mc := mc) (fc := fc) (rv := rv) (wr := wr) (wn := wn) (ca := ca) (rd := rd) (yv := yv) (ra := ra) hR.2.1 v1
  exact gx _ (gy _ ⟨rfl, n, ws_S_i hR⟩)
theorem i_vc_intent {k : Nat} {u : SX} {v : SY} (I : i_Rel k u v) (hk : k + 4 ≤ 2050) (v1 : Int32) : wpX_intent (fun r => wpY_intent (fun r' => r' = r ∧ i_Rel (k + 4) u v) v v1) u v1 := by
  obtain ⟨n, L, w, ub, vV, vC, hV, H, ph, st, it, sw, ew, lb, vw, co, nx, lc, mc, fc, rv, wr, wn, ca, rd, yv, ra, rfl, rfl, hR⟩ := I
  obtain ⟨r, gx, gy⟩ := ws_intent (L := L) (w := w) (ub := ub) (vV := vV) (vC := vC) (hV := hV) (H := H) (ph := ph) (st := st) (it := it) (sw := sw) (ew := ew) (lb := lb) (vw := vw) (co := co) (nx := nx) (lc := lc) (mc := mc) (fc := fc) (rv := rv) (wr := wr) (wn := wn) (ca := ca) (rd := rd) (yv := yv) (ra := ra) hR.2.1 v1
  exact gx _ (gy _ ⟨rfl, n, ws_S_i hR⟩)
theorem i_vc_startedAt {k : Nat} {u : SX} {v : SY} (I : i_Rel k u v) (hk : k + 4 ≤ 2050) (v1 : Int32) : wpX_startedAt (fun r => wpY_startedAt (fun r' => r' = r ∧ i_Rel (k + 4) u v) v v1) u v1 := by
  obtain ⟨n, L, w, ub, vV, vC, hV, H, ph, st, it, sw, ew, lb, vw, co, nx, lc, mc, fc, rv, wr, wn, ca, rd, yv, ra, rfl, rfl, hR⟩ := I
  obtain ⟨r, gx, gy⟩ := ws_startedAt (L := L) (w := w) (ub := ub) (vV := vV) (vC := vC) (hV := hV) (H := H) (ph := ph) (st := st) (it := it) (sw := sw) (ew := ew) (lb := lb) (vw := vw) (co := co) (nx := nx) (lc := lc) (mc := mc) (fc := fc) (rv := rv) (wr := wr) (wn := wn) (ca := ca) (rd := rd) (yv := yv) (ra := ra) hR.2.1 v1
  exact gx _ (gy _ ⟨rfl, n, ws_S_i hR⟩)
theorem i_vc_endedAt {k : Nat} {u : SX} {v : SY} (I : i_Rel k u v) (hk : k + 4 ≤ 2050) (v1 : Int32) : wpX_endedAt (fun r => wpY_endedAt (fun r' => r' = r ∧ i_Rel (k + 4) u v) v v1) u v1 := by
  obtain ⟨n, L, w, ub, vV, vC, hV, H, ph, st, it, sw, ew, lb, vw, co, nx, lc, mc, fc, rv, wr, wn, ca, rd, yv, ra, rfl, rfl, hR⟩ := I
  obtain ⟨r, gx, gy⟩ := ws_endedAt (L := L) (w := w) (ub := ub) (vV := vV) (vC := vC) (hV := hV) (H := H) (ph := ph) (st := st) (it := it) (sw := sw) (ew := ew) (lb := lb) (vw := vw) (co := co) (nx := nx) (lc := lc) (mc := mc) (fc := fc) (rv := rv) (wr := wr) (wn := wn) (ca := ca) (rd := rd) (yv := yv) (ra := ra) hR.2.1 v1
  exact gx _ (gy _ ⟨rfl, n, ws_S_i hR⟩)
theorem i_vc_lender {k : Nat} {u : SX} {v : SY} (I : i_Rel k u v) (hk : k + 4 ≤ 2050) (v1 : Int32) : wpX_lender (fun r => wpY_lender (fun r' => r' = r ∧ i_Rel (k + 4) u v) v v1) u v1 := by
  obtain ⟨n, L, w, ub, vV, vC, hV, H, ph, st, it, sw, ew, lb, vw, co, nx, lc, mc, fc, rv, wr, wn, ca, rd, yv, ra, rfl, rfl, hR⟩ := I
  obtain ⟨r, gx, gy⟩ := ws_lender (L := L) (w := w) (ub := ub) (vV := vV) (vC := vC) (hV := hV) (H := H) (ph := ph) (st := st) (it := it) (sw := sw) (ew := ew) (lb := lb) (vw := vw) (co := co) (nx := nx) (lc := lc) (mc := mc) (fc := fc) (rv := rv) (wr := wr) (wn := wn) (ca := ca) (rd := rd) (yv := yv) (ra := ra) hR.2.1 v1
  exact gx _ (gy _ ⟨rfl, n, ws_S_i hR⟩)
theorem i_vc_movedIn {k : Nat} {u : SX} {v : SY} (I : i_Rel k u v) (hk : k + 4 ≤ 2050) (v1 : Int32) (v2 : Int32) : wpX_movedIn (fun r => wpY_movedIn (fun r' => r' = r ∧ i_Rel (k + 4) u v) v v1 v2) u v1 v2 := by
  obtain ⟨n, L, w, ub, vV, vC, hV, H, ph, st, it, sw, ew, lb, vw, co, nx, lc, mc, fc, rv, wr, wn, ca, rd, yv, ra, rfl, rfl, hR⟩ := I
  obtain ⟨r, gx, gy⟩ := ws_movedIn (H := H) (st := st) (it := it) (sw := sw) (lb := lb) hR v1 v2
  exact gx _ (gy _ ⟨rfl, n, ws_S_i hR⟩)
theorem i_vc_value {k : Nat} {u : SX} {v : SY} (I : i_Rel k u v) (hk : k + 4 ≤ 2050) (v1 : Int32) (v2 : Int32) (v3 : Int32) : wpX_value (fun r => wpY_value (fun r' => r' = r ∧ i_Rel (k + 4) u v) v v1 v2 v3) u v1 v2 v3 := by
  obtain ⟨n, L, w, ub, vV, vC, hV, H, ph, st, it, sw, ew, lb, vw, co, nx, lc, mc, fc, rv, wr, wn, ca, rd, yv, ra, rfl, rfl, hR⟩ := I
  obtain ⟨r, gx, gy⟩ := ws_value (H := H) (st := st) (it := it) (sw := sw) (lb := lb) hR v1 v2 v3
  exact gx _ (gy _ ⟨rfl, n, ws_S_i hR⟩)
theorem i_vc_count {k : Nat} {u : SX} {v : SY} (I : i_Rel k u v) (hk : k + 4 ≤ 2050) (v1 : Int32) (v2 : Int32) (v3 : Int32) : wpX_count (fun r => wpY_count (fun r' => r' = r ∧ i_Rel (k + 4) u v) v v1 v2 v3) u v1 v2 v3 := by
  obtain ⟨n, L, w, ub, vV, vC, hV, H, ph, st, it, sw, ew, lb, vw, co, nx, lc, mc, fc, rv, wr, wn, ca, rd, yv, ra, rfl, rfl, hR⟩ := I
  obtain ⟨r, gx, gy⟩ := ws_count (H := H) (st := st) (it := it) (sw := sw) (lb := lb) hR v1 v2 v3
  exact gx _ (gy _ ⟨rfl, n, ws_S_i hR⟩)
theorem i_vc_version {k : Nat} {u : SX} {v : SY} (I : i_Rel k u v) (hk : k + 4 ≤ 2050) (v1 : Int32) (v2 : Int32) : wpX_version (fun r => wpY_version (fun r' => r' = r ∧ i_Rel (k + 4) u v) v v1 v2) u v1 v2 := by
  obtain ⟨n, L, w, ub, vV, vC, hV, H, ph, st, it, sw, ew, lb, vw, co, nx, lc, mc, fc, rv, wr, wn, ca, rd, yv, ra, rfl, rfl, hR⟩ := I
  obtain ⟨r, gx, gy⟩ := ws_version (H := H) (st := st) (it := it) (sw := sw) (lb := lb) hR v1 v2
  exact gx _ (gy _ ⟨rfl, n, ws_S_i hR⟩)
end
