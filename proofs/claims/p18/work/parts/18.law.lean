/-! the rounds, the start and the law -/
theorem wq_q {n p E : Nat} (h2 : 2 ≤ n) (h6 : n ≤ 6) (hp : p < n) : (p + 1 + E % (n - 1)) % n < n ∧ (p + 1 + E % (n - 1)) % n ≠ p := by
  rcases ws_n5 h2 h6 with rfl | rfl | rfl | rfl | rfl <;> omega
section
variable {post : Int32 → Prop} {N : Nat} {xs : Nat → Int32} {J : Int64 → Int64 → Int64 → Int32 → Int32 → Int32 → Int32 → Int32 → Int32 → Int32 → Int32 → (Nat → Int32) → (Nat → Int32) → (Nat → Int32) → (Nat → Int32) → (Nat → Int32) → (Nat → Int32) → (Nat → Int32) → (Nat → Int32) → (Nat → Int32) → (Nat → Int32) → (Nat → Int32) → (Nat → Int32) → (Nat → Int32) → (Nat → Int32) → (Nat → Int32) → (Nat → Int32) → (Nat → Int32) → Prop} {x4 x15 x16 : Int32} {kc ks : Nat}
variable {n L : Nat} {m : Int32} {B : Nat → Nat} {H : Nat → Int32} {w : Nat} {wr ph st : Nat → Int32} {u : St2} {p : Nat} {h0 h1 h2 : Int64} {x13 x14 : Int32}
theorem wq_337 {a q k : Nat} (hJ : ∀ (h0 h1 h2 : Int64) (w : Nat) (x13 x14 : Int32) (u : St2), wq_I n L m h0 h1 h2 w x13 u → J h0 h1 h2 (nI w) x13 x14 (x16 + 1) u.1 u.2.1 u.2.2.1 u.2.2.2.1 u.2.2.2.2.1 u.2.2.2.2.2.1 u.2.2.2.2.2.2.1 u.2.2.2.2.2.2.2.1 u.2.2.2.2.2.2.2.2.1 u.2.2.2.2.2.2.2.2.2.1 u.2.2.2.2.2.2.2.2.2.2.1 u.2.2.2.2.2.2.2.2.2.2.2.1 u.2.2.2.2.2.2.2.2.2.2.2.2.1 u.2.2.2.2.2.2.2.2.2.2.2.2.2.1 u.2.2.2.2.2.2.2.2.2.2.2.2.2.2.1 u.2.2.2.2.2.2.2.2.2.2.2.2.2.2.2.1 u.2.2.2.2.2.2.2.2.2.2.2.2.2.2.2.2.1 u.2.2.2.2.2.2.2.2.2.2.2.2.2.2.2.2.2.1 u.2.2.2.2.2.2.2.2.2.2.2.2.2.2.2.2.2.2.1 u.2.2.2.2.2.2.2.2.2.2.2.2.2.2.2.2.2.2.2.1 u.2.2.2.2.2.2.2.2.2.2.2.2.2.2.2.2.2.2.2.2)
    (hn : n ≤ 6) (hp : p < n) (hq : q < n) (hpq : q ≠ p) (hS : wq_S n L m B H w wr ph st u) (hl : wq_log h0 h1 h2 wr w) (hB : wq_bits n x13 B) (hk : k < 2 ^ 31) (ha : a = 5 ∨ a = 6) :
    wL_law_337 post N xs J (nI n) m x4 h0 h1 h2 (nI w) x13 x14 x15 x16 (nI p) (nI a) (nI q) (nI k) kc ks u.1 u.2.1 u.2.2.1 u.2.2.2.1 u.2.2.2.2.1 u.2.2.2.2.2.1 u.2.2.2.2.2.2.1 u.2.2.2.2.2.2.2.1 u.2.2.2.2.2.2.2.2.1 u.2.2.2.2.2.2.2.2.2.1 u.2.2.2.2.2.2.2.2.2.2.1 u.2.2.2.2.2.2.2.2.2.2.2.1 u.2.2.2.2.2.2.2.2.2.2.2.2.1 u.2.2.2.2.2.2.2.2.2.2.2.2.2.1 u.2.2.2.2.2.2.2.2.2.2.2.2.2.2.1 u.2.2.2.2.2.2.2.2.2.2.2.2.2.2.2.1 u.2.2.2.2.2.2.2.2.2.2.2.2.2.2.2.2.1 u.2.2.2.2.2.2.2.2.2.2.2.2.2.2.2.2.2.1 u.2.2.2.2.2.2.2.2.2.2.2.2.2.2.2.2.2.2.1 u.2.2.2.2.2.2.2.2.2.2.2.2.2.2.2.2.2.2.2.1 u.2.2.2.2.2.2.2.2.2.2.2.2.2.2.2.2.2.2.2.2 := by
  have e1 : 1 + (nI k - nI k / 7 * 7) = nI (1 + k % 7) := by
    rw [show nI k - nI k / 7 * 7 = nI (k % 7) from pk_rem (a := k) (d := 7) hk (by decide) (by decide)]
    exact nI_add 1 (k % 7)
  have e2 : 1 + (2 * ((((nI k).toUInt32 >>> ((3 : Int32).toUInt32 &&& Int32.toUInt32 31)).toInt32) &&& 3)) = nI (1 + 2 * (k / 8 % 4)) := by
    rw [pk_ushrN (n := k) (by omega) 3 3 (by decide), pk_andN (n := k / 2 ^ 3) (Nat.lt_of_le_of_lt (Nat.div_le_self _ _) (by omega)) (m := 3) 2 (by decide)]
    rw [show (2 : Int32) * nI (k / 2 ^ 3 % 2 ^ 2) = nI (2 * (k / 2 ^ 3 % 2 ^ 2)) from pk_mul 2 _]
    exact nI_add 1 _
  refine ⟨by decide, nm_r e1 (nm_r e2 ⟨9, ?_⟩)⟩
  have hm7 : k % 7 < 7 := Nat.mod_lt k (by decide)
  have hm4 : k / 8 % 4 < 4 := Nat.mod_lt _ (by decide)
  rcases ha with rfl | rfl
  · refine wq_364 (f := fun i => (k + i * (1 + 2 * (k / 8 % 4))) % 8) hJ hn hS hl hB (fun i hi => ⟨?_, fun _ => ?_, fun z => absurd rfl z, fun z => absurd rfl z⟩) (fun a b c ab bc c8 e => ?_) 8 0 0 rfl (by decide) (fun j hj => by omega)
    · show (k + i * (1 + 2 * (k / 8 % 4))) % 8 < 16
      omega
    · have hb : i * (1 + 2 * (k / 8 % 4)) ≤ 7 * 7 := Nat.mul_le_mul (by omega) (by omega)
      rw [pk_mul, nI_add]
      exact pk_andN (n := k + i * (1 + 2 * (k / 8 % 4))) (by omega) (m := 7) 3 (by decide)
    · exfalso
      have o4 : k / 8 % 4 = 0 ∨ k / 8 % 4 = 1 ∨ k / 8 % 4 = 2 ∨ k / 8 % 4 = 3 := by omega
      generalize k / 8 % 4 = y at e o4
      rcases o4 with rfl | rfl | rfl | rfl <;> omega
  · refine wq_364 (f := fun i => if i < 1 + k % 7 then p else q) hJ hn hS hl hB (fun i hi => ⟨?_, fun z => absurd z (by decide), fun _ z => ?_, fun _ z => ?_⟩) (fun a b c ab bc c8 e => ?_) 8 0 0 rfl (by decide) (fun j hj => by omega)
    · show (if i < 1 + k % 7 then p else q) < 16
      split <;> omega
    · rw [nI_leI (by omega) (by omega)] at z
      show nI q = nI (if i < 1 + k % 7 then p else q)
      rw [if_neg (by omega)]
    · rw [nI_leI (by omega) (by omega)] at z
      show nI p = nI (if i < 1 + k % 7 then p else q)
      rw [if_pos (by omega)]
    · by_cases ca : a < 1 + k % 7
      · rw [if_pos ca] at e ⊢
        by_cases cc : c < 1 + k % 7
        · rw [if_pos (by omega)]
        · rw [if_neg cc] at e
          exact absurd e.symm hpq
      · rw [if_neg ca, if_neg (by omega)]
theorem wq_317 {x17 : Int32} {a q k : Nat} (hJ : ∀ (h0 h1 h2 : Int64) (w : Nat) (x13 x14 : Int32) (u : St2), wq_I n L m h0 h1 h2 w x13 u → J h0 h1 h2 (nI w) x13 x14 (x16 + 1) u.1 u.2.1 u.2.2.1 u.2.2.2.1 u.2.2.2.2.1 u.2.2.2.2.2.1 u.2.2.2.2.2.2.1 u.2.2.2.2.2.2.2.1 u.2.2.2.2.2.2.2.2.1 u.2.2.2.2.2.2.2.2.2.1 u.2.2.2.2.2.2.2.2.2.2.1 u.2.2.2.2.2.2.2.2.2.2.2.1 u.2.2.2.2.2.2.2.2.2.2.2.2.1 u.2.2.2.2.2.2.2.2.2.2.2.2.2.1 u.2.2.2.2.2.2.2.2.2.2.2.2.2.2.1 u.2.2.2.2.2.2.2.2.2.2.2.2.2.2.2.1 u.2.2.2.2.2.2.2.2.2.2.2.2.2.2.2.2.1 u.2.2.2.2.2.2.2.2.2.2.2.2.2.2.2.2.2.1 u.2.2.2.2.2.2.2.2.2.2.2.2.2.2.2.2.2.2.1 u.2.2.2.2.2.2.2.2.2.2.2.2.2.2.2.2.2.2.2.1 u.2.2.2.2.2.2.2.2.2.2.2.2.2.2.2.2.2.2.2.2)
    (hn : n ≤ 6) (hp : p < n) (hq : q < n) (hpq : q ≠ p) (hS : wq_S n L m B H w wr ph st u) (hl : wq_log h0 h1 h2 wr w) (hB : wq_bits n x13 B) (hk : k < 2 ^ 31) (ha : a < 8) :
    wL_law_317 post N xs J (nI n) m x4 h0 h1 h2 (nI w) x13 x14 x15 x16 x17 (nI p) (nI a) (nI q) (nI k) kc ks u.1 u.2.1 u.2.2.1 u.2.2.2.1 u.2.2.2.2.1 u.2.2.2.2.2.1 u.2.2.2.2.2.2.1 u.2.2.2.2.2.2.2.1 u.2.2.2.2.2.2.2.2.1 u.2.2.2.2.2.2.2.2.2.1 u.2.2.2.2.2.2.2.2.2.2.1 u.2.2.2.2.2.2.2.2.2.2.2.1 u.2.2.2.2.2.2.2.2.2.2.2.2.1 u.2.2.2.2.2.2.2.2.2.2.2.2.2.1 u.2.2.2.2.2.2.2.2.2.2.2.2.2.2.1 u.2.2.2.2.2.2.2.2.2.2.2.2.2.2.2.1 u.2.2.2.2.2.2.2.2.2.2.2.2.2.2.2.2.1 u.2.2.2.2.2.2.2.2.2.2.2.2.2.2.2.2.2.1 u.2.2.2.2.2.2.2.2.2.2.2.2.2.2.2.2.2.2.1 u.2.2.2.2.2.2.2.2.2.2.2.2.2.2.2.2.2.2.2.1 u.2.2.2.2.2.2.2.2.2.2.2.2.2.2.2.2.2.2.2.2 := by
  have k4 := wq_475 (post := post) (N := N) (xs := xs) (x4 := x4) (x14 := x14) (x15 := x15) (x17 := x17) (a := a) (kc := kc) (ks := ks) hJ hn hp hS hl hB hk
  refine nm_e (br_c (fun z => ?_) (fun _ => br_c (fun z => ?_) (fun _ => br_c (fun _ => ⟨by decide, br_c (fun _ => br_c (fun _ => k4) (fun _ => ?_)) (fun _ => k4)⟩) (fun _ => k4))))
  · exact wq_337 hJ hn hp hq hpq hS hl hB hk (Or.inl ((nI_eq (b := 5) (by omega) (by decide)).mp z))
  · exact wq_337 hJ hn hp hq hpq hS hl hB hk (Or.inr ((nI_eq (b := 6) (by omega) (by decide)).mp z))
  · obtain ⟨r, H', u', hS', g⟩ := wq_halt hS hp
    have fin := fun y => wq_after1 (post := post) (N := N) (xs := xs) (x4 := x4) (x14 := y) (x15 := x15) (kc := kc) (ks := ks) hJ (show p < 6 by omega) hS' hl (Or.inl ⟨rfl, rfl⟩) hB
    obtain ⟨ub, vV, vC, hV, it, sw, ew, lb, vw, co, nx, lc, mc, fc, rv, wn, rd, ra, rfl, hR⟩ := hS
    obtain ⟨ub1, vV1, vC1, hV1, it1, sw1, ew1, lb1, vw1, co1, nx1, lc1, mc1, fc1, rv1, wn1, rd1, ra1, rfl, hR1⟩ := hS'
    exact g _ (br_c (fun _ => nm_e (fin _)) (fun _ => fin _))
theorem wq_281_0 {x17 : Int32} {a q k : Nat} (hJ : ∀ (h0 h1 h2 : Int64) (w : Nat) (x13 x14 : Int32) (u : St2), wq_I n L m h0 h1 h2 w x13 u → J h0 h1 h2 (nI w) x13 x14 (x16 + 1) u.1 u.2.1 u.2.2.1 u.2.2.2.1 u.2.2.2.2.1 u.2.2.2.2.2.1 u.2.2.2.2.2.2.1 u.2.2.2.2.2.2.2.1 u.2.2.2.2.2.2.2.2.1 u.2.2.2.2.2.2.2.2.2.1 u.2.2.2.2.2.2.2.2.2.2.1 u.2.2.2.2.2.2.2.2.2.2.2.1 u.2.2.2.2.2.2.2.2.2.2.2.2.1 u.2.2.2.2.2.2.2.2.2.2.2.2.2.1 u.2.2.2.2.2.2.2.2.2.2.2.2.2.2.1 u.2.2.2.2.2.2.2.2.2.2.2.2.2.2.2.1 u.2.2.2.2.2.2.2.2.2.2.2.2.2.2.2.2.1 u.2.2.2.2.2.2.2.2.2.2.2.2.2.2.2.2.2.1 u.2.2.2.2.2.2.2.2.2.2.2.2.2.2.2.2.2.2.1 u.2.2.2.2.2.2.2.2.2.2.2.2.2.2.2.2.2.2.2.1 u.2.2.2.2.2.2.2.2.2.2.2.2.2.2.2.2.2.2.2.2)
    (hn : n ≤ 6) (hp : p < n) (hq : q < n) (hpq : q ≠ p) (hS : wq_S n L m B H w wr ph st u) (eh : H p = 0) (e0 : ph p = 0) (hl : wq_log h0 h1 h2 wr w) (hB : wq_bits n x13 B) (hk : k < 2 ^ 31) (ha : a < 8) :
    wL_law_281 post N xs J (nI n) m x4 h0 h1 h2 (nI w) x13 x14 x15 x16 x17 (nI p) (nI a) (nI q) (nI k) 0 kc ks u.1 u.2.1 u.2.2.1 u.2.2.2.1 u.2.2.2.2.1 u.2.2.2.2.2.1 u.2.2.2.2.2.2.1 u.2.2.2.2.2.2.2.1 u.2.2.2.2.2.2.2.2.1 u.2.2.2.2.2.2.2.2.2.1 u.2.2.2.2.2.2.2.2.2.2.1 u.2.2.2.2.2.2.2.2.2.2.2.1 u.2.2.2.2.2.2.2.2.2.2.2.2.1 u.2.2.2.2.2.2.2.2.2.2.2.2.2.1 u.2.2.2.2.2.2.2.2.2.2.2.2.2.2.1 u.2.2.2.2.2.2.2.2.2.2.2.2.2.2.2.1 u.2.2.2.2.2.2.2.2.2.2.2.2.2.2.2.2.1 u.2.2.2.2.2.2.2.2.2.2.2.2.2.2.2.2.2.1 u.2.2.2.2.2.2.2.2.2.2.2.2.2.2.2.2.2.2.1 u.2.2.2.2.2.2.2.2.2.2.2.2.2.2.2.2.2.2.2.1 u.2.2.2.2.2.2.2.2.2.2.2.2.2.2.2.2.2.2.2.2 := by
  obtain ⟨ph', st', u', hS', g⟩ := wq_scan hS hp eh e0
  have fin := wq_317 (post := post) (N := N) (xs := xs) (x4 := x4) (x14 := x14) (x15 := x15) (x17 := x17) (kc := kc) (ks := ks) hJ hn hp hq hpq hS' hl (wq_bits_0 hB hn hp) hk ha
  obtain ⟨ub, vV, vC, hV, it, sw, ew, lb, vw, co, nx, lc, mc, fc, rv, wn, rd, ra, rfl, hR⟩ := hS
  obtain ⟨ub1, vV1, vC1, hV1, it1, sw1, ew1, lb1, vw1, co1, nx1, lc1, mc1, fc1, rv1, wn1, rd1, ra1, rfl, hR1⟩ := hS'
  exact br_t rfl (g _ (nm_e fin))
theorem wq_281_1 {x17 : Int32} {a q k : Nat} (hJ : ∀ (h0 h1 h2 : Int64) (w : Nat) (x13 x14 : Int32) (u : St2), wq_I n L m h0 h1 h2 w x13 u → J h0 h1 h2 (nI w) x13 x14 (x16 + 1) u.1 u.2.1 u.2.2.1 u.2.2.2.1 u.2.2.2.2.1 u.2.2.2.2.2.1 u.2.2.2.2.2.2.1 u.2.2.2.2.2.2.2.1 u.2.2.2.2.2.2.2.2.1 u.2.2.2.2.2.2.2.2.2.1 u.2.2.2.2.2.2.2.2.2.2.1 u.2.2.2.2.2.2.2.2.2.2.2.1 u.2.2.2.2.2.2.2.2.2.2.2.2.1 u.2.2.2.2.2.2.2.2.2.2.2.2.2.1 u.2.2.2.2.2.2.2.2.2.2.2.2.2.2.1 u.2.2.2.2.2.2.2.2.2.2.2.2.2.2.2.1 u.2.2.2.2.2.2.2.2.2.2.2.2.2.2.2.2.1 u.2.2.2.2.2.2.2.2.2.2.2.2.2.2.2.2.2.1 u.2.2.2.2.2.2.2.2.2.2.2.2.2.2.2.2.2.2.1 u.2.2.2.2.2.2.2.2.2.2.2.2.2.2.2.2.2.2.2.1 u.2.2.2.2.2.2.2.2.2.2.2.2.2.2.2.2.2.2.2.2)
    (hn : n ≤ 6) (hp : p < n) (hq : q < n) (hpq : q ≠ p) (hS : wq_S n L m (wq_ub B p 1) H w wr ph st u) (hl : wq_log h0 h1 h2 wr w) (hB : wq_bits n x13 B) (hk : k < 2 ^ 31) (ha : a < 8) :
    wL_law_281 post N xs J (nI n) m x4 h0 h1 h2 (nI w) x13 x14 x15 x16 x17 (nI p) (nI a) (nI q) (nI k) 1 kc ks u.1 u.2.1 u.2.2.1 u.2.2.2.1 u.2.2.2.2.1 u.2.2.2.2.2.1 u.2.2.2.2.2.2.1 u.2.2.2.2.2.2.2.1 u.2.2.2.2.2.2.2.2.1 u.2.2.2.2.2.2.2.2.2.1 u.2.2.2.2.2.2.2.2.2.2.1 u.2.2.2.2.2.2.2.2.2.2.2.1 u.2.2.2.2.2.2.2.2.2.2.2.2.1 u.2.2.2.2.2.2.2.2.2.2.2.2.2.1 u.2.2.2.2.2.2.2.2.2.2.2.2.2.2.1 u.2.2.2.2.2.2.2.2.2.2.2.2.2.2.2.1 u.2.2.2.2.2.2.2.2.2.2.2.2.2.2.2.2.1 u.2.2.2.2.2.2.2.2.2.2.2.2.2.2.2.2.2.1 u.2.2.2.2.2.2.2.2.2.2.2.2.2.2.2.2.2.2.1 u.2.2.2.2.2.2.2.2.2.2.2.2.2.2.2.2.2.2.2.1 u.2.2.2.2.2.2.2.2.2.2.2.2.2.2.2.2.2.2.2.2 :=
  br_f (by decide) (nm_e (wq_317 hJ hn hp hq hpq hS hl (wq_bits_1 hB hn hp) hk ha))
theorem wq_182 {x17 : Int32} {a y : Nat} (hJ : ∀ (h0 h1 h2 : Int64) (w : Nat) (x13 x14 : Int32) (u : St2), wq_I n L m h0 h1 h2 w x13 u → J h0 h1 h2 (nI w) x13 x14 (x16 + 1) u.1 u.2.1 u.2.2.1 u.2.2.2.1 u.2.2.2.2.1 u.2.2.2.2.2.1 u.2.2.2.2.2.2.1 u.2.2.2.2.2.2.2.1 u.2.2.2.2.2.2.2.2.1 u.2.2.2.2.2.2.2.2.2.1 u.2.2.2.2.2.2.2.2.2.2.1 u.2.2.2.2.2.2.2.2.2.2.2.1 u.2.2.2.2.2.2.2.2.2.2.2.2.1 u.2.2.2.2.2.2.2.2.2.2.2.2.2.1 u.2.2.2.2.2.2.2.2.2.2.2.2.2.2.1 u.2.2.2.2.2.2.2.2.2.2.2.2.2.2.2.1 u.2.2.2.2.2.2.2.2.2.2.2.2.2.2.2.2.1 u.2.2.2.2.2.2.2.2.2.2.2.2.2.2.2.2.2.1 u.2.2.2.2.2.2.2.2.2.2.2.2.2.2.2.2.2.2.1 u.2.2.2.2.2.2.2.2.2.2.2.2.2.2.2.2.2.2.2.1 u.2.2.2.2.2.2.2.2.2.2.2.2.2.2.2.2.2.2.2.2)
    (h2n : 2 ≤ n) (hn : n ≤ 6) (hw : w ≤ 63) (hp : p < n) (hS : wq_S n L m B H w wr ph st u) (hl : wq_log h0 h1 h2 wr w) (hB : wq_bits n x13 B) (hy : y < 2 ^ 31) (ha : a < 8) :
    wL_law_182 post N xs J (nI n) m x4 h0 h1 h2 (nI w) x13 x14 x15 x16 x17 (nI y) (nI p) (nI a) kc ks u.1 u.2.1 u.2.2.1 u.2.2.2.1 u.2.2.2.2.1 u.2.2.2.2.2.1 u.2.2.2.2.2.2.1 u.2.2.2.2.2.2.2.1 u.2.2.2.2.2.2.2.2.1 u.2.2.2.2.2.2.2.2.2.1 u.2.2.2.2.2.2.2.2.2.2.1 u.2.2.2.2.2.2.2.2.2.2.2.1 u.2.2.2.2.2.2.2.2.2.2.2.2.1 u.2.2.2.2.2.2.2.2.2.2.2.2.2.1 u.2.2.2.2.2.2.2.2.2.2.2.2.2.2.1 u.2.2.2.2.2.2.2.2.2.2.2.2.2.2.2.1 u.2.2.2.2.2.2.2.2.2.2.2.2.2.2.2.2.1 u.2.2.2.2.2.2.2.2.2.2.2.2.2.2.2.2.2.1 u.2.2.2.2.2.2.2.2.2.2.2.2.2.2.2.2.2.2.1 u.2.2.2.2.2.2.2.2.2.2.2.2.2.2.2.2.2.2.2.1 u.2.2.2.2.2.2.2.2.2.2.2.2.2.2.2.2.2.2.2.2 := by
  obtain ⟨q1, q2⟩ := wq_q (E := y / 2 ^ 5 % 2 ^ 10) h2n hn hp
  have e1 : (nI n - 1 : Int32) = nI (n - 1) := by
    rw [show n = (n - 1) + 1 by omega, nI_pred]
    rfl
  have e5 : ((((nI y).toUInt32 >>> ((5 : Int32).toUInt32 &&& Int32.toUInt32 31)).toInt32) &&& 1023) = nI (y / 2 ^ 5 % 2 ^ 10) := by
    rw [pk_ushrN (n := y) (by omega) 5 5 (by decide), pk_andN (n := y / 2 ^ 5) (Nat.lt_of_le_of_lt (Nat.div_le_self _ _) (by omega)) (m := 1023) 10 (by decide)]
  have hE : y / 2 ^ 5 % 2 ^ 10 < 1024 := Nat.mod_lt _ (by decide)
  have hM : y / 2 ^ 5 % 2 ^ 10 % (n - 1) < n - 1 := Nat.mod_lt _ (by omega)
  have e15 : ((nI y).toUInt32 >>> ((15 : Int32).toUInt32 &&& Int32.toUInt32 31)).toInt32 = nI (y / 2 ^ 15) := pk_ushrN (n := y) (by omega) 15 15 (by decide)
  have hk : y / 2 ^ 15 < 2 ^ 31 := Nat.lt_of_le_of_lt (Nat.div_le_self _ _) hy
  generalize y / 2 ^ 5 % 2 ^ 10 = E at q1 q2 e5 hE hM
  generalize y / 2 ^ 15 = k at e15 hk
  unfold wL_law_182
  rw [e1, e5, pk_rem (a := E) (d := n - 1) (by omega) (by omega) (by omega), nI_1, nI_add, pk_rem (a := p + 1 + E % (n - 1)) (d := n) (by omega) (by omega) (by omega)]
  refine ⟨nI_ne0 (by omega) (by omega), nI_ne0 (by omega) (by omega), nm_e (nm_r e15 ?_)⟩
  obtain ⟨t, ht, et⟩ := wq_ph4 hS hp
  have k3 := wq_317 (post := post) (N := N) (xs := xs) (x4 := x4) (x14 := x14) (x15 := x15) (x17 := x17) (kc := kc) (ks := ks) hJ hn hp q1 q2 hS hl hB hk ha
  have hS0 := hS
  have upd' : H p = 0 → ph p = 0 → (wL_law_281 post N xs J (nI n) m x4 h0 h1 h2 (nI w) x13 x14 x15 x16 x17 (nI p) (nI a) (nI ((p + 1 + E % (n - 1)) % n)) (nI k) 0 kc ks u.1 u.2.1 u.2.2.1 u.2.2.2.1 u.2.2.2.2.1 u.2.2.2.2.2.1 u.2.2.2.2.2.2.1 u.2.2.2.2.2.2.2.1 u.2.2.2.2.2.2.2.2.1 u.2.2.2.2.2.2.2.2.2.1 u.2.2.2.2.2.2.2.2.2.2.1 u.2.2.2.2.2.2.2.2.2.2.2.1 u.2.2.2.2.2.2.2.2.2.2.2.2.1 u.2.2.2.2.2.2.2.2.2.2.2.2.2.1 u.2.2.2.2.2.2.2.2.2.2.2.2.2.2.1 u.2.2.2.2.2.2.2.2.2.2.2.2.2.2.2.1 u.2.2.2.2.2.2.2.2.2.2.2.2.2.2.2.2.1 u.2.2.2.2.2.2.2.2.2.2.2.2.2.2.2.2.2.1 u.2.2.2.2.2.2.2.2.2.2.2.2.2.2.2.2.2.2.1 u.2.2.2.2.2.2.2.2.2.2.2.2.2.2.2.2.2.2.2.1 u.2.2.2.2.2.2.2.2.2.2.2.2.2.2.2.2.2.2.2.2) := fun eh e0 => wq_281_0 hJ hn hp q1 q2 hS eh e0 hl hB hk ha
  obtain ⟨ub, vV, vC, hV, it, sw, ew, lb, vw, co, nx, lc, mc, fc, rv, wn, rd, ra, rfl, hR⟩ := hS
  refine wq_phase hS0 hp (fun eh => ?_) (fun eh => ?_)
  · by_cases e0 : ph p = 0
    · refine br_t e0 (br_c (fun _ => br_c (fun _ => upd' eh e0) (fun _ => ?_)) (fun _ => upd' eh e0))
      refine wq_cntw hl hw (Nat.le_refl w) (by omega) (nm_r (nI_1 _) (wq_valw ?_))
      rcases wq_update hS0 hp eh e0 with ⟨ph', st', u', hS', g⟩ | g
      · have fin := wq_281_1 (post := post) (N := N) (xs := xs) (x4 := x4) (x14 := x14) (x15 := x15) (x17 := x17) (kc := kc) (ks := ks) hJ hn hp q1 q2 hS' hl hB hk ha
        obtain ⟨ub1, vV1, vC1, hV1, it1, sw1, ew1, lb1, vw1, co1, nx1, lc1, mc1, fc1, rv1, wn1, rd1, ra1, rfl, hR1⟩ := hS'
        exact g _ (br_t rfl fin)
      · exact g _ _ (br_f (by decide) (upd' eh e0))
    · exact br_f e0 k3
  · refine br_f ?_ k3
    rw [et, show (4 : Int32) = nI 4 from rfl, nI_add]
    exact nI_ne0 (by omega) (by omega)
theorem wq_160 {x17 : Int32} {y : Nat} (hJ : ∀ (h0 h1 h2 : Int64) (w : Nat) (x13 x14 : Int32) (u : St2), wq_I n L m h0 h1 h2 w x13 u → J h0 h1 h2 (nI w) x13 x14 (x16 + 1) u.1 u.2.1 u.2.2.1 u.2.2.2.1 u.2.2.2.2.1 u.2.2.2.2.2.1 u.2.2.2.2.2.2.1 u.2.2.2.2.2.2.2.1 u.2.2.2.2.2.2.2.2.1 u.2.2.2.2.2.2.2.2.2.1 u.2.2.2.2.2.2.2.2.2.2.1 u.2.2.2.2.2.2.2.2.2.2.2.1 u.2.2.2.2.2.2.2.2.2.2.2.2.1 u.2.2.2.2.2.2.2.2.2.2.2.2.2.1 u.2.2.2.2.2.2.2.2.2.2.2.2.2.2.1 u.2.2.2.2.2.2.2.2.2.2.2.2.2.2.2.1 u.2.2.2.2.2.2.2.2.2.2.2.2.2.2.2.2.1 u.2.2.2.2.2.2.2.2.2.2.2.2.2.2.2.2.2.1 u.2.2.2.2.2.2.2.2.2.2.2.2.2.2.2.2.2.2.1 u.2.2.2.2.2.2.2.2.2.2.2.2.2.2.2.2.2.2.2.1 u.2.2.2.2.2.2.2.2.2.2.2.2.2.2.2.2.2.2.2.2)
    (h2n : 2 ≤ n) (hn : n ≤ 6) (hw : w ≤ 63) (hp : p < n) (hS : wq_S n L m B H w wr ph st u) (hl : wq_log h0 h1 h2 wr w) (hB : wq_bits n x13 B) (hy : y < 2 ^ 31) :
    wL_law_160 post N xs J (nI n) m x4 h0 h1 h2 (nI w) x13 x14 x15 x16 x17 (nI y) (nI p) kc ks u.1 u.2.1 u.2.2.1 u.2.2.2.1 u.2.2.2.2.1 u.2.2.2.2.2.1 u.2.2.2.2.2.2.1 u.2.2.2.2.2.2.2.1 u.2.2.2.2.2.2.2.2.1 u.2.2.2.2.2.2.2.2.2.1 u.2.2.2.2.2.2.2.2.2.2.1 u.2.2.2.2.2.2.2.2.2.2.2.1 u.2.2.2.2.2.2.2.2.2.2.2.2.1 u.2.2.2.2.2.2.2.2.2.2.2.2.2.1 u.2.2.2.2.2.2.2.2.2.2.2.2.2.2.1 u.2.2.2.2.2.2.2.2.2.2.2.2.2.2.2.1 u.2.2.2.2.2.2.2.2.2.2.2.2.2.2.2.2.1 u.2.2.2.2.2.2.2.2.2.2.2.2.2.2.2.2.2.1 u.2.2.2.2.2.2.2.2.2.2.2.2.2.2.2.2.2.2.1 u.2.2.2.2.2.2.2.2.2.2.2.2.2.2.2.2.2.2.2.1 u.2.2.2.2.2.2.2.2.2.2.2.2.2.2.2.2.2.2.2.2 := by
  have hy' : y / n < 2 ^ 31 := Nat.lt_of_le_of_lt (Nat.div_le_self _ _) hy
  have h8 : y / n % 2 ^ 3 < 8 := Nat.mod_lt _ (by decide)
  refine ⟨nI_ne0 (by omega) (by omega), nm_r (pk_div hy (by omega) (by omega)) (br_c (fun _ => ?_) (fun _ => ?_))⟩
  · rw [pk_andN (n := y / n) (by omega) (m := 7) 3 (by decide)]
    exact wq_182 hJ h2n hn hw hp hS hl hB hy' h8
  · exact wq_182 (a := 3) hJ h2n hn hw hp hS hl hB hy' (by omega)
end
theorem wq_w63 {n L : Nat} {m : Int32} {B : Nat → Nat} {H : Nat → Int32} {w : Nat} {wr ph st : Nat → Int32} {u : St2} (h : wq_S n L m B H w wr ph st u) : 2 ≤ n ∧ n ≤ 6 ∧ w ≤ 63 := by
  obtain ⟨ub, vV, vC, hV, it, sw, ew, lb, vw, co, nx, lc, mc, fc, rv, wn, rd, ra, rfl, hR⟩ := h
  obtain ⟨h2, h6, hL, hub, hact, _⟩ := hR
  exact ⟨h2, h6, by omega⟩
theorem wq_103 {N : Nat} {xs : Nat → Int32} {n L len : Nat} {m x4 : Int32} {kc ks : Nat} (hN : N ≤ 260) (h2n : 2 ≤ n) (hn : n ≤ 6) (hlen : len ≤ 260) : ∀ (d r : Nat) (h0 h1 h2 : Int64) (w : Nat) (x13 x14 : Int32) (u : St2), r + d = len + n → wq_I n L m h0 h1 h2 w x13 u →
    wL_law_103 (fun r => r = 1) N xs (nI n) m x4 (nI len) kc ks (d + 1) h0 h1 h2 (nI w) x13 x14 (nI r) u.1 u.2.1 u.2.2.1 u.2.2.2.1 u.2.2.2.2.1 u.2.2.2.2.2.1 u.2.2.2.2.2.2.1 u.2.2.2.2.2.2.2.1 u.2.2.2.2.2.2.2.2.1 u.2.2.2.2.2.2.2.2.2.1 u.2.2.2.2.2.2.2.2.2.2.1 u.2.2.2.2.2.2.2.2.2.2.2.1 u.2.2.2.2.2.2.2.2.2.2.2.2.1 u.2.2.2.2.2.2.2.2.2.2.2.2.2.1 u.2.2.2.2.2.2.2.2.2.2.2.2.2.2.1 u.2.2.2.2.2.2.2.2.2.2.2.2.2.2.2.1 u.2.2.2.2.2.2.2.2.2.2.2.2.2.2.2.2.1 u.2.2.2.2.2.2.2.2.2.2.2.2.2.2.2.2.2.1 u.2.2.2.2.2.2.2.2.2.2.2.2.2.2.2.2.2.2.1 u.2.2.2.2.2.2.2.2.2.2.2.2.2.2.2.2.2.2.2.1 u.2.2.2.2.2.2.2.2.2.2.2.2.2.2.2.2.2.2.2.2 := by
  intro d
  induction d with
  | zero =>
    intro r h0 h1 h2 w x13 x14 u hr hI
    refine br_t ?_ rfl
    rw [nI_add]
    exact nI_le (by omega) (by omega)
  | succ d ih =>
    intro r h0 h1 h2 w x13 x14 u hr hI
    have hJ : ∀ (h0 h1 h2 : Int64) (w : Nat) (x13 x14 : Int32) (u : St2), wq_I n L m h0 h1 h2 w x13 u → wL_law_103 (fun r => r = 1) N xs (nI n) m x4 (nI len) kc ks (d + 1) h0 h1 h2 (nI w) x13 x14 (nI r + 1) u.1 u.2.1 u.2.2.1 u.2.2.2.1 u.2.2.2.2.1 u.2.2.2.2.2.1 u.2.2.2.2.2.2.1 u.2.2.2.2.2.2.2.1 u.2.2.2.2.2.2.2.2.1 u.2.2.2.2.2.2.2.2.2.1 u.2.2.2.2.2.2.2.2.2.2.1 u.2.2.2.2.2.2.2.2.2.2.2.1 u.2.2.2.2.2.2.2.2.2.2.2.2.1 u.2.2.2.2.2.2.2.2.2.2.2.2.2.1 u.2.2.2.2.2.2.2.2.2.2.2.2.2.2.1 u.2.2.2.2.2.2.2.2.2.2.2.2.2.2.2.1 u.2.2.2.2.2.2.2.2.2.2.2.2.2.2.2.2.1 u.2.2.2.2.2.2.2.2.2.2.2.2.2.2.2.2.2.1 u.2.2.2.2.2.2.2.2.2.2.2.2.2.2.2.2.2.2.1 u.2.2.2.2.2.2.2.2.2.2.2.2.2.2.2.2.2.2.2.1 u.2.2.2.2.2.2.2.2.2.2.2.2.2.2.2.2.2.2.2.2 := by
      intro h0 h1 h2 w x13 x14 u hI
      rw [nI_1]
      exact ih (r + 1) h0 h1 h2 w x13 x14 u (by omega) hI
    obtain ⟨B, H, wr, ph, st, hS, hl, hB⟩ := hI
    have hw := (wq_w63 hS).2.2
    obtain ⟨x, hx, g⟩ := wq_cm (xs := xs) (L := N) (a := r + 4) hN (by omega)
    have e4 : nI r + 4 = nI (r + 4) := nI_add r 4
    refine br_f (by rw [nI_add]; exact nI_ge (by omega) (by omega)) ?_
    by_cases c : r < len
    · refine br_t (nI_lt c (by omega)) ?_
      unfold wL_law_124
      rw [e4]
      refine g _ ?_ _ rfl
      refine br_t rfl ⟨nI_ne0 (by omega) (by omega), ?_⟩
      rw [pk_rem hx (by omega) (by omega)]
      exact wq_160 hJ h2n hn hw (Nat.mod_lt x (by omega)) hS hl hB hx
    · refine br_f (nI_nlt (by omega) (by omega)) ?_
      unfold wL_law_124
      rw [e4]
      refine g _ ?_ _ rfl
      refine br_f (by decide) ?_
      rw [pk_sub (show len ≤ r by omega)]
      exact wq_160 hJ h2n hn hw (show r - len < n by omega) hS hl hB hx
