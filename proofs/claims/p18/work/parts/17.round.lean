/-! one round of the law: what it does, and the checks behind it -/
def wq_I (n L : Nat) (m : Int32) (h0 h1 h2 : Int64) (w : Nat) (x13 : Int32) (u : St2) : Prop := ∃ B H wr ph st, wq_S n L m B H w wr ph st u ∧ wq_log h0 h1 h2 wr w ∧ wq_bits n x13 B
theorem ws_sub_all {wr : Nat → Int32} {d : Nat → Nat} {wF : Nat} : ∀ m i : Nat, ws_sub wr d wF m i wF := by
  intro m
  induction m with
  | zero => intro i; rfl
  | succ m ih => intro i; exact Or.inl (ih (i + 1))
theorem wq_dg_c : ∀ p, p < 6 → ∀ i, i < 8 → wq_dg (nI p * 286331153) i = p := by decide +kernel
theorem wq_or32 {a b : Nat} (ha : a < 2 ^ 32) (hb : b < 2 ^ 32) : nI a ||| nI b = nI (a ||| b) := by
  apply Int32.toBitVec_inj.mp
  apply BitVec.eq_of_toNat_eq
  rw [Int32.toBitVec_or, BitVec.toNat_or, pk_tn ha, pk_tn hb, pk_tn (Nat.or_lt_two_pow ha hb)]
theorem wq_s4 : ∀ i, i < 8 → (((4 * nI i) &&& 31 : Int32).toBitVec.smod 32).toNat = 4 * i := by decide +kernel
theorem wq_16 (k : Nat) : 2 ^ (4 * k) = 16 ^ k := by rw [Nat.pow_mul]
theorem wq_16le (k : Nat) (hk : k ≤ 8) : 16 ^ k ≤ 2 ^ 32 := by
  rw [← wq_16]
  exact Nat.pow_le_pow_right (by decide) (by omega)
theorem wq_put16 {G i d : Nat} (hG : G < 16 ^ i) (hi : i < 8) (hd : d < 16) : nI G ||| (nI d <<< ((4 * nI i) &&& 31)) = nI (G + d * 16 ^ i) ∧ G + d * 16 ^ i < 16 ^ (i + 1) := by
  have h8 := wq_16le (i + 1) (by omega)
  rw [Nat.pow_succ] at h8
  have hD : d * 16 ^ i ≤ 15 * 16 ^ i := Nat.mul_le_mul_right _ (by omega)
  refine ⟨?_, by rw [Nat.pow_succ]; omega⟩
  rw [pk_shlN ((4 * nI i) &&& 31) (4 * i) (wq_s4 i hi) (by rw [wq_16]; omega), wq_16, wq_or32 (by omega) (by omega)]
  congr 1
  rw [Nat.or_comm, ← wq_16, ← Nat.shiftLeft_eq, ← Nat.shiftLeft_add_eq_or_of_lt (by rw [wq_16]; exact hG), Nat.add_comm]
theorem wq_d16_lo {G d k i : Nat} (hi : i < k) : (G + d * 16 ^ k) / 16 ^ i % 16 = G / 16 ^ i % 16 := by
  have e : d * 16 ^ k = (d * 16 ^ (k - i - 1) * 16) * 16 ^ i := by
    rw [Nat.mul_assoc, Nat.mul_assoc, ← Nat.pow_succ', ← Nat.pow_add]
    congr 2
    omega
  rw [e, Nat.add_mul_div_right _ _ (Nat.pow_pos (by decide)), Nat.add_mul_mod_self_right]
theorem wq_d16_at {G d k : Nat} (hG : G < 16 ^ k) (hd : d < 16) : (G + d * 16 ^ k) / 16 ^ k % 16 = d := by
  rw [Nat.add_mul_div_right _ _ (Nat.pow_pos (by decide)), Nat.div_eq_of_lt hG, Nat.zero_add, Nat.mod_eq_of_lt hd]
section
variable {post : Int32 → Prop} {N : Nat} {xs : Nat → Int32} {J : Int64 → Int64 → Int64 → Int32 → Int32 → Int32 → Int32 → Int32 → Int32 → Int32 → Int32 → (Nat → Int32) → (Nat → Int32) → (Nat → Int32) → (Nat → Int32) → (Nat → Int32) → (Nat → Int32) → (Nat → Int32) → (Nat → Int32) → (Nat → Int32) → (Nat → Int32) → (Nat → Int32) → (Nat → Int32) → (Nat → Int32) → (Nat → Int32) → (Nat → Int32) → (Nat → Int32) → (Nat → Int32) → Prop} {x4 x15 x16 : Int32} {kc ks : Nat}
variable {n L : Nat} {m : Int32} {B : Nat → Nat} {H : Nat → Int32} {w : Nat} {wr ph st : Nat → Int32} {u : St2} {p : Nat} {h0 h1 h2 : Int64} {x13 x14 : Int32}
theorem wq_after {w0 : Nat} {x : Int32} (hJ : ∀ (h0 h1 h2 : Int64) (w : Nat) (x13 x14 : Int32) (u : St2), wq_I n L m h0 h1 h2 w x13 u → J h0 h1 h2 (nI w) x13 x14 (x16 + 1) u.1 u.2.1 u.2.2.1 u.2.2.2.1 u.2.2.2.2.1 u.2.2.2.2.2.1 u.2.2.2.2.2.2.1 u.2.2.2.2.2.2.2.1 u.2.2.2.2.2.2.2.2.1 u.2.2.2.2.2.2.2.2.2.1 u.2.2.2.2.2.2.2.2.2.2.1 u.2.2.2.2.2.2.2.2.2.2.2.1 u.2.2.2.2.2.2.2.2.2.2.2.2.1 u.2.2.2.2.2.2.2.2.2.2.2.2.2.1 u.2.2.2.2.2.2.2.2.2.2.2.2.2.2.1 u.2.2.2.2.2.2.2.2.2.2.2.2.2.2.2.1 u.2.2.2.2.2.2.2.2.2.2.2.2.2.2.2.2.1 u.2.2.2.2.2.2.2.2.2.2.2.2.2.2.2.2.2.1 u.2.2.2.2.2.2.2.2.2.2.2.2.2.2.2.2.2.2.1 u.2.2.2.2.2.2.2.2.2.2.2.2.2.2.2.2.2.2.2.1 u.2.2.2.2.2.2.2.2.2.2.2.2.2.2.2.2.2.2.2.2)
    (hS : wq_S n L m B H w wr ph st u) (hl : wq_log h0 h1 h2 wr w0) (hsub : ws_sub wr (wq_dg x) w 8 0 w0) (hC : ∀ a b c, a < b → b < c → c < 8 → wq_dg x a = wq_dg x c → wq_dg x b = wq_dg x a)
    (hc : ∀ j, j < n → ws_cnt wr j w ≤ ws_cnt wr j w0 + 1) (hB : wq_bits n x13 B) :
    ∃ fu : Nat, wL_law_578 post N xs J (nI n) m x4 x13 x14 x15 x16 x kc ks u.1 u.2.1 u.2.2.1 u.2.2.2.1 u.2.2.2.2.1 u.2.2.2.2.2.1 u.2.2.2.2.2.2.1 u.2.2.2.2.2.2.2.1 u.2.2.2.2.2.2.2.2.1 u.2.2.2.2.2.2.2.2.2.1 u.2.2.2.2.2.2.2.2.2.2.1 u.2.2.2.2.2.2.2.2.2.2.2.1 u.2.2.2.2.2.2.2.2.2.2.2.2.1 u.2.2.2.2.2.2.2.2.2.2.2.2.2.1 u.2.2.2.2.2.2.2.2.2.2.2.2.2.2.1 u.2.2.2.2.2.2.2.2.2.2.2.2.2.2.2.1 u.2.2.2.2.2.2.2.2.2.2.2.2.2.2.2.2.1 u.2.2.2.2.2.2.2.2.2.2.2.2.2.2.2.2.2.1 u.2.2.2.2.2.2.2.2.2.2.2.2.2.2.2.2.2.2.1 u.2.2.2.2.2.2.2.2.2.2.2.2.2.2.2.2.2.2.2.1 u.2.2.2.2.2.2.2.2.2.2.2.2.2.2.2.2.2.2.2.2 fu h0 h1 h2 (nI w0) (-1) 0 := by
  have hS0 := hS
  obtain ⟨ub, vV, vC, hV, it, sw, ew, lb, vw, co, nx, lc, mc, fc, rv, wn, rd, ra, rfl, hR⟩ := hS
  refine ⟨9, wq_det hR hC hc (fun a b c hl' => ⟨n + 1, wq_726 (H := H) (lb := lb) hR hl' hB ?_ n 0 (by omega)⟩) 8 0 w0 h0 h1 h2 rfl (Nat.le_refl w0) hl ⟨hsub, fun a ea => by omega⟩⟩
  exact hJ a b c w x13 x14 _ ⟨B, H, wr, ph, st, hS0, hl', hB⟩
theorem wq_after1 {w' : Nat} {wr' : Nat → Int32} (hJ : ∀ (h0 h1 h2 : Int64) (w : Nat) (x13 x14 : Int32) (u : St2), wq_I n L m h0 h1 h2 w x13 u → J h0 h1 h2 (nI w) x13 x14 (x16 + 1) u.1 u.2.1 u.2.2.1 u.2.2.2.1 u.2.2.2.2.1 u.2.2.2.2.2.1 u.2.2.2.2.2.2.1 u.2.2.2.2.2.2.2.1 u.2.2.2.2.2.2.2.2.1 u.2.2.2.2.2.2.2.2.2.1 u.2.2.2.2.2.2.2.2.2.2.1 u.2.2.2.2.2.2.2.2.2.2.2.1 u.2.2.2.2.2.2.2.2.2.2.2.2.1 u.2.2.2.2.2.2.2.2.2.2.2.2.2.1 u.2.2.2.2.2.2.2.2.2.2.2.2.2.2.1 u.2.2.2.2.2.2.2.2.2.2.2.2.2.2.2.1 u.2.2.2.2.2.2.2.2.2.2.2.2.2.2.2.2.1 u.2.2.2.2.2.2.2.2.2.2.2.2.2.2.2.2.2.1 u.2.2.2.2.2.2.2.2.2.2.2.2.2.2.2.2.2.2.1 u.2.2.2.2.2.2.2.2.2.2.2.2.2.2.2.2.2.2.2.1 u.2.2.2.2.2.2.2.2.2.2.2.2.2.2.2.2.2.2.2.2)
    (hp : p < 6) (hS : wq_S n L m B H w' wr' ph st u) (hl : wq_log h0 h1 h2 wr w) (hw : (w' = w ∧ wr' = wr) ∨ (w' = w + 1 ∧ wr' = upd wr w (nI p))) (hB : wq_bits n x13 B) :
    ∃ fu : Nat, wL_law_578 post N xs J (nI n) m x4 x13 x14 x15 x16 (nI p * 286331153) kc ks u.1 u.2.1 u.2.2.1 u.2.2.2.1 u.2.2.2.2.1 u.2.2.2.2.2.1 u.2.2.2.2.2.2.1 u.2.2.2.2.2.2.2.1 u.2.2.2.2.2.2.2.2.1 u.2.2.2.2.2.2.2.2.2.1 u.2.2.2.2.2.2.2.2.2.2.1 u.2.2.2.2.2.2.2.2.2.2.2.1 u.2.2.2.2.2.2.2.2.2.2.2.2.1 u.2.2.2.2.2.2.2.2.2.2.2.2.2.1 u.2.2.2.2.2.2.2.2.2.2.2.2.2.2.1 u.2.2.2.2.2.2.2.2.2.2.2.2.2.2.2.1 u.2.2.2.2.2.2.2.2.2.2.2.2.2.2.2.2.1 u.2.2.2.2.2.2.2.2.2.2.2.2.2.2.2.2.2.1 u.2.2.2.2.2.2.2.2.2.2.2.2.2.2.2.2.2.2.1 u.2.2.2.2.2.2.2.2.2.2.2.2.2.2.2.2.2.2.2.1 u.2.2.2.2.2.2.2.2.2.2.2.2.2.2.2.2.2.2.2.2 fu h0 h1 h2 (nI w) (-1) 0 := by
  have hdg := wq_dg_c p hp
  refine wq_after hJ hS (wq_log_ext hl ?_) ?_ ?_ ?_ hB
  · intro t ht
    rcases hw with ⟨_, rfl⟩ | ⟨_, rfl⟩
    · rfl
    · exact pk_un (by omega)
  · rcases hw with ⟨rfl, rfl⟩ | ⟨rfl, rfl⟩
    · exact ws_sub_all 8 0
    · exact Or.inr ⟨by omega, by rw [pk_us, hdg 0 (by omega)], ws_sub_all 7 1⟩
  · intro a b c ab bc c8 _
    rw [hdg b (by omega), hdg a (by omega)]
  · intro j _
    rcases hw with ⟨rfl, rfl⟩ | ⟨rfl, rfl⟩
    · omega
    · rw [ws_cnt_s]
      split <;> omega
theorem wq_566 {Z k : Nat} (hJ : ∀ (h0 h1 h2 : Int64) (w : Nat) (x13 x14 : Int32) (u : St2), wq_I n L m h0 h1 h2 w x13 u → J h0 h1 h2 (nI w) x13 x14 (x16 + 1) u.1 u.2.1 u.2.2.1 u.2.2.2.1 u.2.2.2.2.1 u.2.2.2.2.2.1 u.2.2.2.2.2.2.1 u.2.2.2.2.2.2.2.1 u.2.2.2.2.2.2.2.2.1 u.2.2.2.2.2.2.2.2.2.1 u.2.2.2.2.2.2.2.2.2.2.1 u.2.2.2.2.2.2.2.2.2.2.2.1 u.2.2.2.2.2.2.2.2.2.2.2.2.1 u.2.2.2.2.2.2.2.2.2.2.2.2.2.1 u.2.2.2.2.2.2.2.2.2.2.2.2.2.2.1 u.2.2.2.2.2.2.2.2.2.2.2.2.2.2.2.1 u.2.2.2.2.2.2.2.2.2.2.2.2.2.2.2.2.1 u.2.2.2.2.2.2.2.2.2.2.2.2.2.2.2.2.2.1 u.2.2.2.2.2.2.2.2.2.2.2.2.2.2.2.2.2.2.1 u.2.2.2.2.2.2.2.2.2.2.2.2.2.2.2.2.2.2.2.1 u.2.2.2.2.2.2.2.2.2.2.2.2.2.2.2.2.2.2.2.2)
    (hn : n ≤ 6) (hp : p < n) (hS : wq_S n L m B H w wr ph st u) (hl : wq_log h0 h1 h2 wr w) (hB : wq_bits n x13 B) (hZ : 0 < Z) (hZ2 : Z ≤ 7) (hk : k < 2 ^ 31) :
    wL_law_566 post N xs J (nI n) m x4 h0 h1 h2 (nI w) x13 x14 x15 x16 (nI p * 286331153) (nI Z) (nI k) 1 (nI p) kc ks u.1 u.2.1 u.2.2.1 u.2.2.2.1 u.2.2.2.2.1 u.2.2.2.2.2.1 u.2.2.2.2.2.2.1 u.2.2.2.2.2.2.2.1 u.2.2.2.2.2.2.2.2.1 u.2.2.2.2.2.2.2.2.2.1 u.2.2.2.2.2.2.2.2.2.2.1 u.2.2.2.2.2.2.2.2.2.2.2.1 u.2.2.2.2.2.2.2.2.2.2.2.2.1 u.2.2.2.2.2.2.2.2.2.2.2.2.2.1 u.2.2.2.2.2.2.2.2.2.2.2.2.2.2.1 u.2.2.2.2.2.2.2.2.2.2.2.2.2.2.2.1 u.2.2.2.2.2.2.2.2.2.2.2.2.2.2.2.2.1 u.2.2.2.2.2.2.2.2.2.2.2.2.2.2.2.2.2.1 u.2.2.2.2.2.2.2.2.2.2.2.2.2.2.2.2.2.2.1 u.2.2.2.2.2.2.2.2.2.2.2.2.2.2.2.2.2.2.2.1 u.2.2.2.2.2.2.2.2.2.2.2.2.2.2.2.2.2.2.2.2 := by
  have hm := Nat.mod_lt k hZ
  obtain ⟨r, w', wr', ph', st', u', hS', hw, _, g⟩ := wq_run (kk := 1 + k % Z) hS hn hp (by omega) (by omega)
  refine ⟨nI_ne0 hZ (by omega), ?_⟩
  rw [pk_rem hk hZ (by omega), show (1 : Int32) = nI 1 from rfl, nI_add]
  have fin := wq_after1 (post := post) (N := N) (xs := xs) (x4 := x4) (x14 := x14) (x15 := x15) (kc := kc) (ks := ks) hJ (show p < 6 by omega) hS' hl hw hB
  obtain ⟨ub, vV, vC, hV, it, sw, ew, lb, vw, co, nx, lc, mc, fc, rv, wn, rd, ra, rfl, hR⟩ := hS
  obtain ⟨ub1, vV1, vC1, hV1, it1, sw1, ew1, lb1, vw1, co1, nx1, lc1, mc1, fc1, rv1, wn1, rd1, ra1, rfl, hR1⟩ := hS'
  exact g _ fin
theorem wq_545 {k : Nat} (hJ : ∀ (h0 h1 h2 : Int64) (w : Nat) (x13 x14 : Int32) (u : St2), wq_I n L m h0 h1 h2 w x13 u → J h0 h1 h2 (nI w) x13 x14 (x16 + 1) u.1 u.2.1 u.2.2.1 u.2.2.2.1 u.2.2.2.2.1 u.2.2.2.2.2.1 u.2.2.2.2.2.2.1 u.2.2.2.2.2.2.2.1 u.2.2.2.2.2.2.2.2.1 u.2.2.2.2.2.2.2.2.2.1 u.2.2.2.2.2.2.2.2.2.2.1 u.2.2.2.2.2.2.2.2.2.2.2.1 u.2.2.2.2.2.2.2.2.2.2.2.2.1 u.2.2.2.2.2.2.2.2.2.2.2.2.2.1 u.2.2.2.2.2.2.2.2.2.2.2.2.2.2.1 u.2.2.2.2.2.2.2.2.2.2.2.2.2.2.2.1 u.2.2.2.2.2.2.2.2.2.2.2.2.2.2.2.2.1 u.2.2.2.2.2.2.2.2.2.2.2.2.2.2.2.2.2.1 u.2.2.2.2.2.2.2.2.2.2.2.2.2.2.2.2.2.2.1 u.2.2.2.2.2.2.2.2.2.2.2.2.2.2.2.2.2.2.2.1 u.2.2.2.2.2.2.2.2.2.2.2.2.2.2.2.2.2.2.2.2)
    (hn : n ≤ 6) (hp : p < n) (hS : wq_S n L m B H w wr ph st u) (hl : wq_log h0 h1 h2 wr w) (hB : wq_bits n x13 B) (hk : k < 2 ^ 31) :
    wL_law_545 post N xs J (nI n) m x4 h0 h1 h2 (nI w) x13 x14 x15 x16 (nI p) (nI k) (nI p * 286331153) kc ks u.1 u.2.1 u.2.2.1 u.2.2.2.1 u.2.2.2.2.1 u.2.2.2.2.2.1 u.2.2.2.2.2.2.1 u.2.2.2.2.2.2.2.1 u.2.2.2.2.2.2.2.2.1 u.2.2.2.2.2.2.2.2.2.1 u.2.2.2.2.2.2.2.2.2.2.1 u.2.2.2.2.2.2.2.2.2.2.2.1 u.2.2.2.2.2.2.2.2.2.2.2.2.1 u.2.2.2.2.2.2.2.2.2.2.2.2.2.1 u.2.2.2.2.2.2.2.2.2.2.2.2.2.2.1 u.2.2.2.2.2.2.2.2.2.2.2.2.2.2.2.1 u.2.2.2.2.2.2.2.2.2.2.2.2.2.2.2.2.1 u.2.2.2.2.2.2.2.2.2.2.2.2.2.2.2.2.2.1 u.2.2.2.2.2.2.2.2.2.2.2.2.2.2.2.2.2.2.1 u.2.2.2.2.2.2.2.2.2.2.2.2.2.2.2.2.2.2.2.1 u.2.2.2.2.2.2.2.2.2.2.2.2.2.2.2.2.2.2.2.2 := by
  by_cases c : x4 ≤ nI p
  · refine br_t c ?_
    rw [nI_1]
    exact wq_566 hJ hn hp hS hl hB (by omega) (by omega) hk
  · exact br_f c (wq_566 (Z := 3) hJ hn hp hS hl hB (by omega) (by omega) hk)
theorem wq_499 (hJ : ∀ (h0 h1 h2 : Int64) (w : Nat) (x13 x14 : Int32) (u : St2), wq_I n L m h0 h1 h2 w x13 u → J h0 h1 h2 (nI w) x13 x14 (x16 + 1) u.1 u.2.1 u.2.2.1 u.2.2.2.1 u.2.2.2.2.1 u.2.2.2.2.2.1 u.2.2.2.2.2.2.1 u.2.2.2.2.2.2.2.1 u.2.2.2.2.2.2.2.2.1 u.2.2.2.2.2.2.2.2.2.1 u.2.2.2.2.2.2.2.2.2.2.1 u.2.2.2.2.2.2.2.2.2.2.2.1 u.2.2.2.2.2.2.2.2.2.2.2.2.1 u.2.2.2.2.2.2.2.2.2.2.2.2.2.1 u.2.2.2.2.2.2.2.2.2.2.2.2.2.2.1 u.2.2.2.2.2.2.2.2.2.2.2.2.2.2.2.1 u.2.2.2.2.2.2.2.2.2.2.2.2.2.2.2.2.1 u.2.2.2.2.2.2.2.2.2.2.2.2.2.2.2.2.2.1 u.2.2.2.2.2.2.2.2.2.2.2.2.2.2.2.2.2.2.1 u.2.2.2.2.2.2.2.2.2.2.2.2.2.2.2.2.2.2.2.1 u.2.2.2.2.2.2.2.2.2.2.2.2.2.2.2.2.2.2.2.2)
    (hn : n ≤ 6) (hp : p < n) (hS : wq_S n L m B H w wr ph st u) (hl : wq_log h0 h1 h2 wr w) (hB : wq_bits n x13 B) :
    wL_law_499 post N xs J (nI n) m x4 h0 h1 h2 (nI w) x13 x14 x15 x16 (nI p) (nI p * 286331153) kc ks u.1 u.2.1 u.2.2.1 u.2.2.2.1 u.2.2.2.2.1 u.2.2.2.2.2.1 u.2.2.2.2.2.2.1 u.2.2.2.2.2.2.2.1 u.2.2.2.2.2.2.2.2.1 u.2.2.2.2.2.2.2.2.2.1 u.2.2.2.2.2.2.2.2.2.2.1 u.2.2.2.2.2.2.2.2.2.2.2.1 u.2.2.2.2.2.2.2.2.2.2.2.2.1 u.2.2.2.2.2.2.2.2.2.2.2.2.2.1 u.2.2.2.2.2.2.2.2.2.2.2.2.2.2.1 u.2.2.2.2.2.2.2.2.2.2.2.2.2.2.2.1 u.2.2.2.2.2.2.2.2.2.2.2.2.2.2.2.2.1 u.2.2.2.2.2.2.2.2.2.2.2.2.2.2.2.2.2.1 u.2.2.2.2.2.2.2.2.2.2.2.2.2.2.2.2.2.2.1 u.2.2.2.2.2.2.2.2.2.2.2.2.2.2.2.2.2.2.2.1 u.2.2.2.2.2.2.2.2.2.2.2.2.2.2.2.2.2.2.2.2 := by
  obtain ⟨r, w', wr', ph', st', u', hS', hw, h64, g⟩ := wq_run (kk := 64) hS hn hp (by omega) (by omega)
  obtain ⟨t, ht, et⟩ := wq_ph4 hS hp
  have fin := wq_after1 (post := post) (N := N) (xs := xs) (x4 := x4) (x14 := x14) (x15 := x15) (kc := kc) (ks := ks) hJ (show p < 6 by omega) hS' hl hw hB
  have hS0 := hS
  have hS1 := hS'
  obtain ⟨ub, vV, vC, hV, it, sw, ew, lb, vw, co, nx, lc, mc, fc, rv, wn, rd, ra, rfl, hR⟩ := hS
  obtain ⟨ub1, vV1, vC1, hV1, it1, sw1, ew1, lb1, vw1, co1, nx1, lc1, mc1, fc1, rv1, wn1, rd1, ra1, rfl, hR1⟩ := hS'
  unfold wL_law_499
  refine wq_phase hS0 hp (fun eh => g _ ?_) (fun eh => g _ ?_)
  · rw [et]
    by_cases c1 : t < 1
    · exact br_t (nI_lt (b := 1) c1 (by decide)) fin
    · refine br_f (nI_nlt (b := 1) (by omega) (by omega)) (br_f (nI_nlt (a := 3) (by omega) (by decide)) ?_)
      have e0 := h64 eh (by rw [et]; exact nI_ne0 (by omega) (by omega)) rfl
      exact wq_phase hS1 hp (fun _ => by rw [e0]; exact br_t rfl fin) (fun z => absurd eh z)
  · rw [et, show (4 : Int32) = nI 4 from rfl, nI_add]
    exact br_f (nI_nlt (b := 1) (by omega) (by omega)) (br_t (nI_lt (a := 3) (by omega) (by omega)) fin)
theorem wq_475 {x17 : Int32} {a k : Nat} (hJ : ∀ (h0 h1 h2 : Int64) (w : Nat) (x13 x14 : Int32) (u : St2), wq_I n L m h0 h1 h2 w x13 u → J h0 h1 h2 (nI w) x13 x14 (x16 + 1) u.1 u.2.1 u.2.2.1 u.2.2.2.1 u.2.2.2.2.1 u.2.2.2.2.2.1 u.2.2.2.2.2.2.1 u.2.2.2.2.2.2.2.1 u.2.2.2.2.2.2.2.2.1 u.2.2.2.2.2.2.2.2.2.1 u.2.2.2.2.2.2.2.2.2.2.1 u.2.2.2.2.2.2.2.2.2.2.2.1 u.2.2.2.2.2.2.2.2.2.2.2.2.1 u.2.2.2.2.2.2.2.2.2.2.2.2.2.1 u.2.2.2.2.2.2.2.2.2.2.2.2.2.2.1 u.2.2.2.2.2.2.2.2.2.2.2.2.2.2.2.1 u.2.2.2.2.2.2.2.2.2.2.2.2.2.2.2.2.1 u.2.2.2.2.2.2.2.2.2.2.2.2.2.2.2.2.2.1 u.2.2.2.2.2.2.2.2.2.2.2.2.2.2.2.2.2.2.1 u.2.2.2.2.2.2.2.2.2.2.2.2.2.2.2.2.2.2.2.1 u.2.2.2.2.2.2.2.2.2.2.2.2.2.2.2.2.2.2.2.2)
    (hn : n ≤ 6) (hp : p < n) (hS : wq_S n L m B H w wr ph st u) (hl : wq_log h0 h1 h2 wr w) (hB : wq_bits n x13 B) (hk : k < 2 ^ 31) :
    wL_law_475 post N xs J (nI n) m x4 h0 h1 h2 (nI w) x13 x14 x15 x16 x17 (nI p) (nI a) (nI k) (nI p * 286331153) kc ks u.1 u.2.1 u.2.2.1 u.2.2.2.1 u.2.2.2.2.1 u.2.2.2.2.2.1 u.2.2.2.2.2.2.1 u.2.2.2.2.2.2.2.1 u.2.2.2.2.2.2.2.2.1 u.2.2.2.2.2.2.2.2.2.1 u.2.2.2.2.2.2.2.2.2.2.1 u.2.2.2.2.2.2.2.2.2.2.2.1 u.2.2.2.2.2.2.2.2.2.2.2.2.1 u.2.2.2.2.2.2.2.2.2.2.2.2.2.1 u.2.2.2.2.2.2.2.2.2.2.2.2.2.2.1 u.2.2.2.2.2.2.2.2.2.2.2.2.2.2.2.1 u.2.2.2.2.2.2.2.2.2.2.2.2.2.2.2.2.1 u.2.2.2.2.2.2.2.2.2.2.2.2.2.2.2.2.2.1 u.2.2.2.2.2.2.2.2.2.2.2.2.2.2.2.2.2.2.1 u.2.2.2.2.2.2.2.2.2.2.2.2.2.2.2.2.2.2.2.1 u.2.2.2.2.2.2.2.2.2.2.2.2.2.2.2.2.2.2.2.2 := by
  have k5 := wq_545 (post := post) (N := N) (xs := xs) (x4 := x4) (x14 := x14) (x15 := x15) (kc := kc) (ks := ks) hJ hn hp hS hl hB hk
  have k4 := wq_499 (post := post) (N := N) (xs := xs) (x4 := x4) (x14 := x14) (x15 := x15) (kc := kc) (ks := ks) hJ hn hp hS hl hB
  have k8 : wL_law_487 post N xs J (nI n) m x4 h0 h1 h2 (nI w) x13 x14 x15 x16 x17 (nI p) (nI k) (nI p * 286331153) kc ks u.1 u.2.1 u.2.2.1 u.2.2.2.1 u.2.2.2.2.1 u.2.2.2.2.2.1 u.2.2.2.2.2.2.1 u.2.2.2.2.2.2.2.1 u.2.2.2.2.2.2.2.2.1 u.2.2.2.2.2.2.2.2.2.1 u.2.2.2.2.2.2.2.2.2.2.1 u.2.2.2.2.2.2.2.2.2.2.2.1 u.2.2.2.2.2.2.2.2.2.2.2.2.1 u.2.2.2.2.2.2.2.2.2.2.2.2.2.1 u.2.2.2.2.2.2.2.2.2.2.2.2.2.2.1 u.2.2.2.2.2.2.2.2.2.2.2.2.2.2.2.1 u.2.2.2.2.2.2.2.2.2.2.2.2.2.2.2.2.1 u.2.2.2.2.2.2.2.2.2.2.2.2.2.2.2.2.2.1 u.2.2.2.2.2.2.2.2.2.2.2.2.2.2.2.2.2.2.1 u.2.2.2.2.2.2.2.2.2.2.2.2.2.2.2.2.2.2.2.1 u.2.2.2.2.2.2.2.2.2.2.2.2.2.2.2.2.2.2.2.2 :=
    br_c (fun _ => br_c (fun _ => k5) (fun _ => k4)) (fun _ => k4)
  exact br_c (fun _ => k8) (fun _ => br_c (fun _ => k8) (fun _ => k5))
theorem wq_364 {x20 x21 x22 x24 x25 : Int32} {f : Nat → Nat} (hJ : ∀ (h0 h1 h2 : Int64) (w : Nat) (x13 x14 : Int32) (u : St2), wq_I n L m h0 h1 h2 w x13 u → J h0 h1 h2 (nI w) x13 x14 (x16 + 1) u.1 u.2.1 u.2.2.1 u.2.2.2.1 u.2.2.2.2.1 u.2.2.2.2.2.1 u.2.2.2.2.2.2.1 u.2.2.2.2.2.2.2.1 u.2.2.2.2.2.2.2.2.1 u.2.2.2.2.2.2.2.2.2.1 u.2.2.2.2.2.2.2.2.2.2.1 u.2.2.2.2.2.2.2.2.2.2.2.1 u.2.2.2.2.2.2.2.2.2.2.2.2.1 u.2.2.2.2.2.2.2.2.2.2.2.2.2.1 u.2.2.2.2.2.2.2.2.2.2.2.2.2.2.1 u.2.2.2.2.2.2.2.2.2.2.2.2.2.2.2.1 u.2.2.2.2.2.2.2.2.2.2.2.2.2.2.2.2.1 u.2.2.2.2.2.2.2.2.2.2.2.2.2.2.2.2.2.1 u.2.2.2.2.2.2.2.2.2.2.2.2.2.2.2.2.2.2.1 u.2.2.2.2.2.2.2.2.2.2.2.2.2.2.2.2.2.2.2.1 u.2.2.2.2.2.2.2.2.2.2.2.2.2.2.2.2.2.2.2.2)
    (hn : n ≤ 6) (hS : wq_S n L m B H w wr ph st u) (hl : wq_log h0 h1 h2 wr w) (hB : wq_bits n x13 B)
    (hf : ∀ i, i < 8 → f i < 16 ∧ (x20 = 5 → (x22 + (nI i * x25)) &&& 7 = nI (f i)) ∧ (¬ x20 = 5 → x24 ≤ nI i → x21 = nI (f i)) ∧ (¬ x20 = 5 → ¬ x24 ≤ nI i → nI p = nI (f i)))
    (hC : ∀ a b c, a < b → b < c → c < 8 → f a = f c → f b = f a) :
    ∀ d i G : Nat, i + d = 8 → G < 16 ^ i → (∀ j, j < i → G / 16 ^ j % 16 = f j) →
    wL_law_364 post N xs J (nI n) m x4 h0 h1 h2 (nI w) x13 x14 x15 x16 (nI p) x20 x21 x22 x24 x25 kc ks u.1 u.2.1 u.2.2.1 u.2.2.2.1 u.2.2.2.2.1 u.2.2.2.2.2.1 u.2.2.2.2.2.2.1 u.2.2.2.2.2.2.2.1 u.2.2.2.2.2.2.2.2.1 u.2.2.2.2.2.2.2.2.2.1 u.2.2.2.2.2.2.2.2.2.2.1 u.2.2.2.2.2.2.2.2.2.2.2.1 u.2.2.2.2.2.2.2.2.2.2.2.2.1 u.2.2.2.2.2.2.2.2.2.2.2.2.2.1 u.2.2.2.2.2.2.2.2.2.2.2.2.2.2.1 u.2.2.2.2.2.2.2.2.2.2.2.2.2.2.2.1 u.2.2.2.2.2.2.2.2.2.2.2.2.2.2.2.2.1 u.2.2.2.2.2.2.2.2.2.2.2.2.2.2.2.2.2.1 u.2.2.2.2.2.2.2.2.2.2.2.2.2.2.2.2.2.2.1 u.2.2.2.2.2.2.2.2.2.2.2.2.2.2.2.2.2.2.2.1 u.2.2.2.2.2.2.2.2.2.2.2.2.2.2.2.2.2.2.2.2 (d + 1) (nI G) (nI i) := by
  intro d
  induction d with
  | zero =>
    intro i G hi hG hd
    have ei : i = 8 := by omega
    subst ei
    have edg : ∀ j, j < 8 → wq_dg (nI G) j = f j := fun j hj => by
      unfold wq_dg
      rw [pk_tn (Nat.lt_of_lt_of_le hG (wq_16le 8 (by omega)))]
      exact hd j hj
    obtain ⟨r, w', wr', ph', st', u', hS', hsub, hle, hpre, hcn, g⟩ := wq_sch (nI G) hn hS
    have fin := wq_after (post := post) (N := N) (xs := xs) (x4 := x4) (x14 := x14) (x15 := x15) (kc := kc) (ks := ks) hJ hS' (wq_log_ext hl hpre) hsub (fun a b c ab bc c8 e => by
      rw [edg a (by omega), edg c (by omega)] at e
      rw [edg b (by omega), edg a (by omega)]
      exact hC a b c ab bc c8 e) hcn hB
    obtain ⟨ub, vV, vC, hV, it, sw, ew, lb, vw, co, nx, lc, mc, fc, rv, wn, rd, ra, rfl, hR⟩ := hS
    obtain ⟨ub1, vV1, vC1, hV1, it1, sw1, ew1, lb1, vw1, co1, nx1, lc1, mc1, fc1, rv1, wn1, rd1, ra1, rfl, hR1⟩ := hS'
    exact br_t (nI_le (a := 8) (b := 8) (by omega) (by omega)) (g _ fin)
  | succ d ih =>
    intro i G hi hG hd
    obtain ⟨f1, f2, f3, f4⟩ := hf i (by omega)
    obtain ⟨e1, e2⟩ := wq_put16 (G := G) (i := i) (d := f i) hG (by omega) f1
    have k := ih (i + 1) (G + f i * 16 ^ i) (by omega) e2 (fun j hj => by
      by_cases c : j = i
      · rw [c]
        exact wq_d16_at hG f1
      · rw [wq_d16_lo (by omega)]
        exact hd j (by omega))
    refine br_f (nI_ge (b := 8) (by omega) (by omega)) ?_
    by_cases c5 : x20 = 5
    · refine br_t c5 ?_
      rw [f2 c5]
      exact nm_r e1 (nm_r (nI_1 i) k)
    · refine br_f c5 ?_
      by_cases c : x24 ≤ nI i
      · refine br_t c ?_
        rw [f3 c5 c] at k ⊢
        exact nm_r e1 (nm_r (nI_1 i) k)
      · refine br_f c ?_
        have e := f4 c5 c
        exact nm_r (by rw [e]; exact e1) (nm_r (nI_1 i) k)
end
