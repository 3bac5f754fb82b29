/-! a read step in one process's share of the relation: the tables, and the three ways on -/
theorem ws_loc (f : Nat → Int32) (b k : Nat) (x : Int32) : (fun s => upd f (b + k) x (b + s)) = upd (fun s => f (b + s)) k x := by
  funext s
  by_cases e : s = k
  · subst e
    rw [pk_us, pk_us]
  · rw [pk_un e, pk_un (show b + s ≠ b + k by omega)]
theorem ws_o6 {p q j j' : Nat} (h : q ≠ p) (hj : j < 6) (hj' : j' < 6) : q * 6 + j' ≠ p * 6 + j := by omega
theorem ws_o64 {p q r s : Nat} (h : q ≠ p) (hj : r < 64) (hj' : s < 64) : q * 64 + s ≠ p * 64 + r := by omega
def ws_MN (n w r : Nat) (wr A M : Nat → Int32) : Nat → Int32 := if n ≤ r ∧ ws_cnt wr (r % n) (A (r - n)).toNatClampNeg < ws_cnt wr (r % n) w then upd M (r % n) (nI (r / n + 1)) else M
def ws_FN (n w r : Nat) (wr F : Nat → Int32) : Nat → Int32 := if r < n then upd F (r % n) (nI (ws_cnt wr (r % n) w)) else F
section
variable {n w r : Nat} {wr A M F R : Nat → Int32}
theorem ws_Tab_new (h2 : 2 ≤ n) (hw : w ≤ 128) (h : ws_Tab n wr A M R r) : ws_Tab n wr (upd A r (nI w)) (ws_MN n w r wr A M) (upd R (r % n) (nI w)) (r + 1) := by
  intro j hj
  rw [ws_rd_new, ws_mv_new j (by omega) (by omega)]
  obtain ⟨e1, e2⟩ := h j hj
  refine ⟨?_, ?_⟩
  · by_cases e : r % n = j
    · rw [if_pos e, e, pk_us]
    · rw [if_neg e, pk_un (fun z => e z.symm)]
      exact e1
  · unfold ws_MN
    by_cases e : r % n = j
    · subst e
      by_cases z : n ≤ r ∧ ws_cnt wr (r % n) (A (r - n)).toNatClampNeg < ws_cnt wr (r % n) w
      · rw [if_pos z, if_pos ⟨z.1, rfl, z.2⟩, pk_us]
      · rw [if_neg z, if_neg (fun y => z ⟨y.1, y.2.2⟩)]
        exact e2
    · rw [if_neg (show ¬ (n ≤ r ∧ r % n = j ∧ ws_cnt wr j (A (r - n)).toNatClampNeg < ws_cnt wr j w) from fun y => e y.2.1)]
      split
      · rw [pk_un (fun z => e z.symm)]
        exact e2
      · exact e2
theorem ws_F_new (h2 : 2 ≤ n) (h6 : n ≤ 6) (hw : w ≤ 128) (h : ∀ j, j < n → j < r → F j = nI (ws_cnt wr j (A j).toNatClampNeg)) :
    ∀ j, j < n → j < r + 1 → ws_FN n w r wr F j = nI (ws_cnt wr j (upd A r (nI w) j).toNatClampNeg) := by
  intro j hj hjr
  unfold ws_FN
  by_cases hr : r < n
  · rw [if_pos hr, ((ws_dm3 h2 h6 r).1 hr).2]
    by_cases e : j = r
    · subst e
      rw [pk_us, pk_us, nI_clamp (by omega)]
    · rw [pk_un e, pk_un e]
      exact h j hj (by omega)
  · rw [if_neg hr, pk_un (show j ≠ r by omega)]
    exact h j hj (by omega)
theorem ws_Go_B (h2 : 2 ≤ n) (h6 : n ≤ 6) (hw : w ≤ 128) (hR : ws_Rds w A r) {co nx lc : Int32} (h : ws_Go n wr A co nx lc F r)
    (hne : n ≤ r → ws_cnt wr (r % n) w < ws_cnt wr (r % n) (A (r % n)).toNatClampNeg + 2) (hb : r % n + 1 < n) :
    ws_Go n wr (upd A r (nI w)) co (nI (r % n + 1)) lc (ws_FN n w r wr F) (r + 1) := by
  obtain ⟨g1, g2, g3, g4, g5⟩ := h
  obtain ⟨d1, d2⟩ := ws_dm1 h2 h6 r hb
  refine ⟨by rw [d1]; exact g1, by rw [d2], ?_, ws_F_new h2 h6 hw g4, ws_WF_new h2 h6 hw hR g5 hne (fun z => by omega)⟩
  intro hn
  have d3 := ws_dm3 h2 h6 r
  have hnr : n ≤ r := by
    by_cases q : n ≤ r
    · exact q
    · have := (d3.1 (by omega)).2
      omega
  have d4 := d3.2.2.1 hnr
  have d5 := d3.2.2.2
  rw [d1, g3 hnr, pk_un (show r / n * n - 1 ≠ r by omega)]
theorem ws_Go_D (h2 : 2 ≤ n) (h6 : n ≤ 6) (hw : w ≤ 128) (hR : ws_Rds w A r) {co nx lc : Int32} (h : ws_Go n wr A co nx lc F r)
    (hne : n ≤ r → ws_cnt wr (r % n) w < ws_cnt wr (r % n) (A (r % n)).toNatClampNeg + 2) (hb : r % n + 1 = n)
    (hd : n ≤ r → ∃ i, i < n ∧ ws_mv wr (upd A r (nI w)) n i (r + 1) = r / n + 1) :
    ws_Go n wr (upd A r (nI w)) (nI (r / n + 2)) (nI 0) (nI w) (ws_FN n w r wr F) (r + 1) := by
  obtain ⟨g1, g2, g3, g4, g5⟩ := h
  obtain ⟨d1, d2, d3, d4⟩ := ws_dm2 h2 h6 r hb
  refine ⟨by rw [d1], by rw [d2], ?_, ws_F_new h2 h6 hw g4, ws_WF_new h2 h6 hw hR g5 hne (fun _ => hd)⟩
  intro hn
  rw [d3, pk_us]
theorem ws_P_go (h2 : 2 ≤ n) (hw : w ≤ 128) (hr : r < 64) {t : Nat} (ht : t = 1 ∨ t = 2) (hR : ws_Rds w A r) (hT : ws_Tab n wr A M R r) {ew vw yv co nx lc : Int32} (hV : ws_View w ew vw yv)
    (hg : ws_Go n wr (upd A r (nI w)) co nx lc (ws_FN n w r wr F) (r + 1)) :
    ws_P n w wr (upd A r (nI w)) (nI (r + 1)) (nI t) ew vw yv co nx lc (ws_MN n w r wr A M) (ws_FN n w r wr F) (upd R (r % n) (nI w)) :=
  ⟨r + 1, t, by omega, by omega, rfl, rfl, ws_Rds_new hR, ws_Tab_new h2 hw hT, hV, fun z => by omega, fun _ => hg⟩
theorem ws_P_end (h2 : 2 ≤ n) (hw : w ≤ 128) (hr : r < 64) {t : Nat} (ht : t = 0 ∨ t = 3) (hR : ws_Rds w A r) (hT : ws_Tab n wr A M R r) {x : Nat} (hx : x ≤ w) (co nx lc : Int32) :
    ws_P n w wr (upd A r (nI w)) (nI (r + 1)) (nI t) (nI w) (nI x) (nI x) co nx lc (ws_MN n w r wr A M) (ws_FN n w r wr F) (upd R (r % n) (nI w)) :=
  ⟨r + 1, t, by omega, by omega, rfl, rfl, ws_Rds_new hR, ws_Tab_new h2 hw hT, Or.inr ⟨w, x, Nat.le_refl w, hx, rfl, rfl, rfl⟩, fun _ => ws_neg6 w (by omega), fun z => by omega⟩
end
theorem ws_P_new {n w : Nat} {wr A : Nat → Int32} {yv lc : Int32} {M F R : Nat → Int32} {t : Nat} (h2 : 2 ≤ n) (ht : t = 1 ∨ t = 2)
    (hM : ∀ j, j < 6 → M j = 0) (hR : ∀ j, j < 6 → R j = -6) (h6 : n ≤ 6) : ws_P n w wr A (nI 0) (nI t) (-6) (-6) yv (nI 1) (nI 0) lc M F R := by
  refine ⟨0, t, by omega, by omega, rfl, rfl, fun s hs => by omega, ?_, Or.inl ⟨rfl, rfl⟩, fun z => by omega, fun _ => ?_⟩
  · intro j hj
    exact ⟨hR j (by omega), hM j (by omega)⟩
  · refine ⟨by rw [Nat.zero_div], by rw [Nat.zero_mod], fun z => by omega, fun j _ z => by omega, ?_, fun j _ z => by omega⟩
    intro c c1 c2
    rw [Nat.zero_div] at c2
    omega
