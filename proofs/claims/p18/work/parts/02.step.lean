/-! one process's share of the relation, and how a read step moves it -/
def ws_Rds (w : Nat) (A : Nat → Int32) (r : Nat) : Prop := ∀ s, s < r → ∃ a, a ≤ w ∧ A s = nI a
def ws_Tab (n : Nat) (wr A M R : Nat → Int32) (r : Nat) : Prop := ∀ j, j < n → R j = ws_rd A n j r ∧ M j = nI (ws_mv wr A n j r)
def ws_View (w : Nat) (ew vw yv : Int32) : Prop := (ew = -6 ∧ vw = -6) ∨ ∃ e x : Nat, e ≤ w ∧ x ≤ w ∧ ew = nI e ∧ vw = nI x ∧ yv = nI x
def ws_WF (n : Nat) (wr A : Nat → Int32) (r : Nat) : Prop :=
  (∀ c, 2 ≤ c → c < r / n + 1 → ∃ j, j < n ∧ ws_mv wr A n j r = c) ∧
  (∀ j, j < n → j < r → (ws_mv wr A n j r = 0 → ws_cnt wr j (ws_rd A n j r).toNatClampNeg = ws_cnt wr j (A j).toNatClampNeg) ∧ (ws_mv wr A n j r ≠ 0 → ws_cnt wr j (A j).toNatClampNeg < ws_cnt wr j (ws_rd A n j r).toNatClampNeg))
def ws_Go (n : Nat) (wr A : Nat → Int32) (co nx lc : Int32) (F : Nat → Int32) (r : Nat) : Prop :=
  co = nI (r / n + 1) ∧ nx = nI (r % n) ∧ (n ≤ r → lc = A (r / n * n - 1)) ∧ (∀ j, j < n → j < r → F j = nI (ws_cnt wr j (A j).toNatClampNeg)) ∧ ws_WF n wr A r
def ws_P (n w : Nat) (wr A : Nat → Int32) (rd ph ew vw yv co nx lc : Int32) (M F R : Nat → Int32) : Prop :=
  ∃ r t : Nat, r ≤ 64 ∧ t < 4 ∧ rd = nI r ∧ ph = nI t ∧ ws_Rds w A r ∧ ws_Tab n wr A M R r ∧ ws_View w ew vw yv ∧ (t = 3 → ¬ ew = -6) ∧ (t = 1 ∨ t = 2 → ws_Go n wr A co nx lc F r)
theorem ws_Rds_c {w : Nat} {A : Nat → Int32} {r s : Nat} (hw : w ≤ 128) (h : ws_Rds w A r) (hs : s < r) : (A s).toNatClampNeg ≤ w ∧ A s = nI (A s).toNatClampNeg := by
  obtain ⟨a, ha, e⟩ := h s hs
  rw [e, nI_clamp (by omega)]
  exact ⟨ha, rfl⟩
theorem ws_bound {n : Nat} {wr A : Nat → Int32} {r : Nat} (h2 : 2 ≤ n) (h6 : n ≤ 6) (h : ws_WF n wr A r) : r < 48 := by
  have := ws_pig n (r / n - 1) (fun j => ws_mv wr A n j r - 2) (fun k hk => by
    obtain ⟨j, hj, e⟩ := h.1 (k + 2) (by omega) (by omega)
    exact ⟨j, hj, by show ws_mv wr A n j r - 2 = k; omega⟩)
  exact ws_dm4 h2 h6 r (by omega)
theorem ws_neg6 (a : Nat) (h : a < 2 ^ 31) : ¬ nI a = -6 := by
  intro z
  have h1 := congrArg Int32.toInt z
  rw [nI_toInt h, show (-6 : Int32).toInt = -6 from by decide] at h1
  omega
/-- what a process is told does not change by what happens elsewhere -/
theorem ws_P_ext {n w w' : Nat} {wr wr' A A' : Nat → Int32} {rd ph ew vw yv co nx lc : Int32} {M F R M' F' R' : Nat → Int32} (hw : w ≤ w') (hw' : w ≤ 128) (hn : n ≤ 6)
    (hc : ∀ j v, v ≤ w → ws_cnt wr' j v = ws_cnt wr j v) (hA : ∀ s, s < 64 → A' s = A s) (hM : ∀ j, j < 6 → M' j = M j) (hF : ∀ j, j < 6 → F' j = F j) (hR : ∀ j, j < 6 → R' j = R j)
    (h : ws_P n w wr A rd ph ew vw yv co nx lc M F R) : ws_P n w' wr' A' rd ph ew vw yv co nx lc M' F' R' := by
  obtain ⟨r, t, hr, ht, er, et, h1, h2, h3, h4, h5⟩ := h
  have hcA : ∀ j s, s < r → ws_cnt wr' j (A' s).toNatClampNeg = ws_cnt wr j (A s).toNatClampNeg := fun j s hs => by
    rw [hA s (by omega)]
    exact hc j _ (ws_Rds_c hw' h1 hs).1
  have hmv : ∀ j, ws_mv wr' A' n j r = ws_mv wr A n j r := fun j => ws_mv_ext n j r (hcA j)
  have hrd : ∀ j, ws_rd A' n j r = ws_rd A n j r := fun j => ws_rd_ext n j r (fun s hs => hA s (by omega))
  refine ⟨r, t, hr, ht, er, et, ?_, ?_, ?_, h4, ?_⟩
  · intro s hs
    obtain ⟨a, ha, e⟩ := h1 s hs
    exact ⟨a, by omega, by rw [hA s (by omega)]; exact e⟩
  · intro j hj
    rw [hR j (by omega), hM j (by omega), hmv, hrd]
    exact h2 j hj
  · rcases h3 with h | ⟨e, x, he, hx, h⟩
    · exact Or.inl h
    · exact Or.inr ⟨e, x, by omega, by omega, h⟩
  · intro z
    obtain ⟨g1, g2, g3, g4, g5, g6⟩ := h5 z
    refine ⟨g1, g2, ?_, ?_, ?_, ?_⟩
    · intro hnr
      have hp : r / n * n ≤ r := Nat.div_mul_le_self r n
      have hp2 : 0 < r ∨ n = 0 := by omega
      rw [g3 hnr]
      by_cases h0 : r / n * n - 1 < 64
      · exact (hA _ h0).symm
      · omega
    · intro j hj hjr
      rw [hF j (by omega), hcA j j hjr]
      exact g4 j hj hjr
    · intro c c1 c2
      obtain ⟨j, hj, e⟩ := g5 c c1 c2
      exact ⟨j, hj, by rw [hmv]; exact e⟩
    · intro j hj hjr
      rw [hmv, hrd, hcA j j hjr]
      obtain ⟨s, hs, es⟩ := ws_rd_some A n j hj r hjr
      rw [hc j (ws_rd A n j r).toNatClampNeg (by rw [es]; exact (ws_Rds_c hw' h1 hs).1)]
      exact g6 j hj hjr
section
variable {n w r : Nat} {wr A : Nat → Int32}
theorem ws_A_old (s : Nat) (hs : s < r) : upd A r (nI w) s = A s := pk_un (show s ≠ r by omega)
theorem ws_rd_old (j : Nat) : ws_rd (upd A r (nI w)) n j r = ws_rd A n j r := ws_rd_ext n j r (fun s hs => ws_A_old s hs)
theorem ws_mv_old (j : Nat) : ws_mv wr (upd A r (nI w)) n j r = ws_mv wr A n j r := ws_mv_ext n j r (fun s hs => by rw [ws_A_old s hs])
theorem ws_rd_new (j : Nat) : ws_rd (upd A r (nI w)) n j (r + 1) = if r % n = j then nI w else ws_rd A n j r := by
  rw [ws_rd_s, ws_rd_old, pk_us]
theorem ws_mv_new (j : Nat) (hn : 0 < n) (hw : w < 2 ^ 31) : ws_mv wr (upd A r (nI w)) n j (r + 1) = if n ≤ r ∧ r % n = j ∧ ws_cnt wr j (A (r - n)).toNatClampNeg < ws_cnt wr j w then r / n + 1 else ws_mv wr A n j r := by
  rw [ws_mv_s, ws_mv_old, pk_us, nI_clamp hw]
  by_cases h : n ≤ r
  · rw [ws_A_old (r - n) (by omega)]
  · rw [if_neg (fun z => h z.1), if_neg (fun z => h z.1)]
theorem ws_Rds_new (h : ws_Rds w A r) : ws_Rds w (upd A r (nI w)) (r + 1) := by
  intro s hs
  by_cases e : s = r
  · subst e
    exact ⟨w, Nat.le_refl w, pk_us⟩
  · rw [pk_un e]
    exact h s (by omega)
/-- the wait-free part, one read further, the reading not ended by a second move -/
theorem ws_WF_new (h2 : 2 ≤ n) (h6 : n ≤ 6) (hw : w ≤ 128) (hR : ws_Rds w A r) (h : ws_WF n wr A r)
    (hne : n ≤ r → ws_cnt wr (r % n) w < ws_cnt wr (r % n) (A (r % n)).toNatClampNeg + 2)
    (hd : r % n + 1 = n → n ≤ r → ∃ i, i < n ∧ ws_mv wr (upd A r (nI w)) n i (r + 1) = r / n + 1) : ws_WF n wr (upd A r (nI w)) (r + 1) := by
  have hml := ws_ml h2 r
  have hm3 := ws_dm3 h2 h6 r
  have key : ∀ i c, i < n → 2 ≤ c → ws_mv wr A n i r = c → ws_mv wr (upd A r (nI w)) n i (r + 1) = c := by
    intro i c hi hc e
    rw [ws_mv_new i (by omega) (by omega)]
    by_cases z : n ≤ r ∧ r % n = i ∧ ws_cnt wr i (A (r - n)).toNatClampNeg < ws_cnt wr i w
    · obtain ⟨z1, z2, z3⟩ := z
      have b := (h.2 i hi (by omega)).2 (by omega)
      have pv := ws_rd_prev h2 h6 A r z1
      have en := hne z1
      rw [z2] at pv en
      rw [pv] at b
      omega
    · rw [if_neg z]
      exact e
  refine ⟨?_, ?_⟩
  · intro c c1 c2
    by_cases hb : r % n + 1 < n
    · rw [(ws_dm1 h2 h6 r hb).1] at c2
      obtain ⟨i, hi, e⟩ := h.1 c c1 c2
      exact ⟨i, hi, key i c hi c1 e⟩
    · rw [(ws_dm2 h2 h6 r (by omega)).1] at c2
      by_cases hc : c < r / n + 1
      · obtain ⟨i, hi, e⟩ := h.1 c c1 hc
        exact ⟨i, hi, key i c hi c1 e⟩
      · have hnr : n ≤ r := by
          by_cases hq : n ≤ r
          · exact hq
          · have := (hm3.1 (by omega)).1
            omega
        obtain ⟨i, hi, e⟩ := hd (by omega) hnr
        exact ⟨i, hi, by omega⟩
  · intro j hj hjr
    rw [ws_rd_new, ws_mv_new j (by omega) (by omega)]
    by_cases e : r % n = j
    · rw [if_pos e, nI_clamp (by omega)]
      by_cases hnr : n ≤ r
      · have hjlt : j < r := by omega
        have o := h.2 j hj hjlt
        have pv := ws_rd_prev h2 h6 A r hnr
        rw [e] at pv
        rw [pv] at o
        rw [ws_A_old j hjlt]
        have mon := ws_cnt_mon wr j (ws_Rds_c hw hR (show r - n < r by omega)).1
        by_cases q : ws_cnt wr j (A (r - n)).toNatClampNeg < ws_cnt wr j w
        · rw [if_pos ⟨hnr, e, q⟩]
          refine ⟨fun z => by omega, fun _ => ?_⟩
          by_cases m0 : ws_mv wr A n j r = 0
          · have := o.1 m0
            omega
          · have := o.2 m0
            omega
        · rw [if_neg (fun z => q z.2.2)]
          refine ⟨fun z => ?_, fun z => ?_⟩
          · have := o.1 z
            omega
          · have := o.2 z
            omega
      · rw [if_neg (fun z => hnr z.1), ws_mv_0 wr A n j r (by omega)]
        have ej : j = r := by
          have := (hm3.1 (by omega)).2
          omega
        rw [ej, pk_us, nI_clamp (by omega)]
        exact ⟨fun _ => rfl, fun z => absurd rfl z⟩
    · rw [if_neg e, if_neg (fun z => e z.2.1)]
      have hjr2 : j < r := by
        by_cases q : j = r
        · exact absurd (by rw [← q]; exact Nat.mod_eq_of_lt hj) e
        · omega
      rw [ws_A_old j hjr2]
      exact h.2 j hj hjr2
end
