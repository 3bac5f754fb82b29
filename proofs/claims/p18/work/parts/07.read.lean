/-! a read step of each side, in the words of the pure picture -/
def ws_MG (n w r b : Nat) (wr A mc : Nat → Int32) : Nat → Int32 := if n ≤ r ∧ ws_cnt wr (r % n) (A (r - n)).toNatClampNeg < ws_cnt wr (r % n) w then upd mc (b + r % n) (nI (r / n + 1)) else mc
def ws_FG (n w r b : Nat) (wr fc : Nat → Int32) : Nat → Int32 := if r < n then upd fc (b + r % n) (nI (ws_cnt wr (r % n) w)) else fc
theorem ws_MG_loc (n w r b : Nat) (wr A mc : Nat → Int32) : (fun i => ws_MG n w r b wr A mc (b + i)) = ws_MN n w r wr A (fun i => mc (b + i)) := by
  unfold ws_MG ws_MN
  split
  · exact ws_loc mc b (r % n) _
  · rfl
theorem ws_FG_loc (n w r b : Nat) (wr fc : Nat → Int32) : (fun i => ws_FG n w r b wr fc (b + i)) = ws_FN n w r wr (fun i => fc (b + i)) := by
  unfold ws_FG ws_FN
  split
  · exact ws_loc fc b (r % n) _
  · rfl
theorem ws_MG_o (n w r b : Nat) (wr A mc : Nat → Int32) (x : Nat) (h : x ≠ b + r % n) : ws_MG n w r b wr A mc x = mc x := by
  unfold ws_MG
  split
  · exact pk_un h
  · rfl
theorem ws_FG_o (n w r b : Nat) (wr fc : Nat → Int32) (x : Nat) (h : x ≠ b + r % n) : ws_FG n w r b wr fc x = fc x := by
  unfold ws_FG
  split
  · exact pk_un h
  · rfl
section
variable {n L w ub : Nat} {vV vC hV H ph st it sw ew lb vw co nx lc mc fc rv : Nat → Int32} {wr wn A : Nat → Int32} {p r : Nat}
theorem wx_note {post : St2 → Prop} (hp : p < 6) (h2 : 2 ≤ n) (h6 : n ≤ 6) (hw : w ≤ 128) (hr : r < 64) (hV' : ws_V w vV vC wr wn) (hR : ws_Rds w A r) (hc : co p = nI (r / n + 1))
    (hrv : rv (p * 6 + r % n) = ws_rd A n (r % n) r)
    (h : post ((nI n), (nI L), (nI w), (nI ub), vV, vC, hV, H, ph, st, it, sw, ew, lb, vw, co, nx, lc, (ws_MG n w r (p * 6) wr A mc), (ws_FG n w r (p * 6) wr fc), (upd rv (p * 6 + r % n) (nI w)))) : wpX_noteRead post ((nI n), (nI L), (nI w), (nI ub), vV, vC, hV, H, ph, st, it, sw, ew, lb, vw, co, nx, lc, mc, fc, rv) (nI p) (nI (r % n)) := by
  have hml := ws_ml h2 r
  have d3 := ws_dm3 h2 h6 r
  have dl := Nat.div_le_self r n
  have eq := (hV' w (r % n) (Nat.le_refl w) (by omega)).1
  unfold ws_MG ws_FG at h
  by_cases z : n ≤ r
  · obtain ⟨b1, b2⟩ := ws_Rds_c hw hR (show r - n < r by omega)
    have ea := (hV' (A (r - n)).toNatClampNeg (r % n) b1 (by omega)).1
    have c1 := ws_cnt_le wr (r % n) w
    have c2 := ws_cnt_le wr (r % n) (A (r - n)).toNatClampNeg
    have d4 := d3.2.1 z
    refine wx_noteRead (a := (A (r - n)).toNatClampNeg) (c := r / n + 1) hp (by omega) hw (by omega) hc (by omega) (fun _ => by rw [hrv, ws_rd_prev h2 h6 A r z]; exact b2) (fun y => by omega) (fun _ y => ?_) (fun _ y => ?_)
    · rw [eq, ea, nI_leI (by omega) (by omega)] at y
      rw [if_neg (by omega), if_neg (by omega)] at h
      exact h
    · rw [eq, ea, nI_leI (by omega) (by omega)] at y
      rw [if_pos ⟨z, by omega⟩, if_neg (by omega)] at h
      exact h
  · have d4 := d3.1 (by omega)
    refine wx_noteRead (a := 0) (c := r / n + 1) hp (by omega) hw (by omega) hc (by omega) (fun y => by omega) (fun _ => ?_) (fun y => by omega) (fun y => by omega)
    rw [if_neg (fun y => z y.1), if_pos (by omega)] at h
    rw [eq]
    exact h
theorem wx_twice {post : Int32 → Prop} (hp : p < 6) (h2 : 2 ≤ n) (h6 : n ≤ 6) (hw : w ≤ 128) (hV' : ws_V w vV vC wr wn) (hR : ws_Rds w A r)
    (hF : ∀ j, j < n → j < r → fc (p * 6 + j) = nI (ws_cnt wr j (A j).toNatClampNeg))
    (h0 : (r < n ∨ ws_cnt wr (r % n) w < ws_cnt wr (r % n) (A (r % n)).toNatClampNeg + 2) → post 0)
    (h1 : n ≤ r → ws_cnt wr (r % n) (A (r % n)).toNatClampNeg + 2 ≤ ws_cnt wr (r % n) w → post 1) : wpX_movedTwice post ((nI n), (nI L), (nI w), (nI ub), vV, vC, hV, H, ph, st, it, sw, ew, lb, vw, co, nx, lc, mc, (ws_FG n w r (p * 6) wr fc), rv) (nI p) (nI (r % n)) := by
  have hml := ws_ml h2 r
  have eq := (hV' w (r % n) (Nat.le_refl w) (by omega)).1
  have c1 := ws_cnt_le wr (r % n) w
  by_cases z : n ≤ r
  · have m := ws_cnt_mon wr (r % n) (ws_Rds_c hw hR (show r % n < r by omega)).1
    have ef : ws_FG n w r (p * 6) wr fc (p * 6 + r % n) = nI (ws_cnt wr (r % n) (A (r % n)).toNatClampNeg) := by
      unfold ws_FG
      rw [if_neg (by omega)]
      exact hF (r % n) (by omega) (by omega)
    have e : vC (w * 6 + r % n) - ws_FG n w r (p * 6) wr fc (p * 6 + r % n) < 2 ↔ ws_cnt wr (r % n) w - ws_cnt wr (r % n) (A (r % n)).toNatClampNeg < 2 := by
      rw [eq, ef, pk_sub m]
      exact nI_ltI (b := 2) (by omega) (by decide)
    refine wx_movedTwice hp (by omega) hw (fun y => h0 (Or.inr ?_)) (fun y => h1 z ?_)
    · have := e.mp y
      omega
    · have : ¬ ws_cnt wr (r % n) w - ws_cnt wr (r % n) (A (r % n)).toNatClampNeg < 2 := fun q => y (e.mpr q)
      omega
  · have e : vC (w * 6 + r % n) - ws_FG n w r (p * 6) wr fc (p * 6 + r % n) < 2 := by
      unfold ws_FG
      rw [if_pos (by omega), pk_us, eq, Int32.sub_self]
      decide
    exact wx_movedTwice hp (by omega) hw (fun _ => h0 (Or.inl (by omega))) (fun y => absurd e y)
theorem wx_end {post : St2 → Prop} {t t' : Nat} {x y : Int32} (hp : p < 6) (et : ph p = nI t) (ht : (t = 1 ∧ t' = 0) ∨ (t = 2 ∧ t' = 3))
    (h : post ((nI n), (nI L), (nI w), (nI ub), vV, vC, hV, H, (upd ph p (nI t')), st, it, sw, (upd ew p (nI w)), (upd lb p y), (upd vw p x), co, nx, lc, mc, fc, rv)) : wpX_endReading post ((nI n), (nI L), (nI w), (nI ub), vV, vC, hV, H, ph, st, it, sw, ew, lb, vw, co, nx, lc, mc, fc, rv) (nI p) x y := by
  refine wx_endReading hp (fun z => ?_) (fun z => ?_)
  · rcases ht with ⟨rfl, rfl⟩ | ⟨rfl, rfl⟩
    · exact h
    · rw [et] at z
      exact absurd z (by decide)
  · rcases ht with ⟨rfl, rfl⟩ | ⟨rfl, rfl⟩
    · exact absurd et z
    · exact h
theorem wx_read {post : St2 → Prop} {t t' : Nat} (hp : p < 6) (h2 : 2 ≤ n) (h6 : n ≤ 6) (hw : w ≤ 128) (hr : r < 64) (hV' : ws_V w vV vC wr wn) (hR : ws_Rds w A r)
    (hT : ws_Tab n wr A (fun j => mc (p * 6 + j)) (fun j => rv (p * 6 + j)) r) (hG : ws_Go n wr A (co p) (nx p) (lc p) (fun j => fc (p * 6 + j)) r)
    (et : ph p = nI t) (ht : (t = 1 ∧ t' = 0) ∨ (t = 2 ∧ t' = 3))
    (hA : n ≤ r → ws_cnt wr (r % n) (A (r % n)).toNatClampNeg + 2 ≤ ws_cnt wr (r % n) w →
      post ((nI n), (nI L), (nI w), (nI ub), vV, vC, hV, H, (upd ph p (nI t')), st, it, sw, (upd ew p (nI w)), (upd lb p (nI (r % n))), (upd vw p (hV (r % n))), co, nx, lc, (ws_MG n w r (p * 6) wr A mc), (ws_FG n w r (p * 6) wr fc), (upd rv (p * 6 + r % n) (nI w))))
    (hB : (r < n ∨ ws_cnt wr (r % n) w < ws_cnt wr (r % n) (A (r % n)).toNatClampNeg + 2) → r % n + 1 < n →
      post ((nI n), (nI L), (nI w), (nI ub), vV, vC, hV, H, ph, st, it, sw, ew, lb, vw, co, (upd nx p (nI (r % n + 1))), lc, (ws_MG n w r (p * 6) wr A mc), (ws_FG n w r (p * 6) wr fc), (upd rv (p * 6 + r % n) (nI w))))
    (hC : n ≤ r → ws_cnt wr (r % n) w < ws_cnt wr (r % n) (A (r % n)).toNatClampNeg + 2 → r % n + 1 = n → (∀ i, i < n → ¬ ws_mv wr (upd A r (nI w)) n i (r + 1) = r / n + 1) →
      post ((nI n), (nI L), (nI w), (nI ub), vV, vC, hV, H, (upd ph p (nI t')), st, it, sw, (upd ew p (nI w)), (upd lb p (-7)), (upd vw p (lc p)), co, nx, lc, (ws_MG n w r (p * 6) wr A mc), (ws_FG n w r (p * 6) wr fc), (upd rv (p * 6 + r % n) (nI w))))
    (hD : (r < n ∨ ws_cnt wr (r % n) w < ws_cnt wr (r % n) (A (r % n)).toNatClampNeg + 2) → r % n + 1 = n → (r < n ∨ ∃ i, i < n ∧ ws_mv wr (upd A r (nI w)) n i (r + 1) = r / n + 1) →
      post ((nI n), (nI L), (nI w), (nI ub), vV, vC, hV, H, ph, st, it, sw, ew, lb, vw, (upd co p (nI (r / n + 2))), (upd nx p 0), (upd lc p (nI w)), (ws_MG n w r (p * 6) wr A mc), (ws_FG n w r (p * 6) wr fc), (upd rv (p * 6 + r % n) (nI w)))) :
    wpX_read post ((nI n), (nI L), (nI w), (nI ub), vV, vC, hV, H, ph, st, it, sw, ew, lb, vw, co, nx, lc, mc, fc, rv) (nI p) (nI (r % n)) := by
  have hml := ws_ml h2 r
  have dl := Nat.div_le_self r n
  have d3 := ws_dm3 h2 h6 r
  obtain ⟨g1, g2, g3, g4, g5⟩ := hG
  unfold wpX_read
  refine wx_note hp h2 h6 hw hr hV' hR g1 (hT (r % n) hml).1 ?_
  have e1 : (nI n - 1 : Int32) = nI (n - 1) := by
    rw [show n = (n - 1) + 1 by omega, nI_pred]
    rfl
  refine wx_twice hp h2 h6 hw hV' hR g4 (fun y => br_t rfl ?_) (fun y1 y2 => br_f (by decide) ⟨ws_in (by omega), ?_⟩)
  · rw [e1]
    refine pk_le (n - 1) (r % n) (fun q => ?_) (fun q => ⟨ws_in hp, nm_r (e' := upd nx p (nI (r % n + 1))) (by rw [ws_u (by omega), nI_1]) (hB y (by omega))⟩)
    have tab : ∀ i, i < n → (ws_MG n w r (p * 6) wr A mc (p * 6 + i) = nI (r / n + 1) ↔ ws_mv wr (upd A r (nI w)) n i (r + 1) = r / n + 1) := by
      intro i hi
      have a := (ws_Tab_new h2 hw hT i hi).2
      rw [← ws_MG_loc] at a
      dsimp only at a
      have b := ws_mv_le wr (upd A r (nI w)) n i (r + 1)
      rw [a]
      exact nI_eq (by omega) (by omega)
    refine wx_clean (c := r / n + 1) hp h6 g1 (by omega) (fun s => br_t rfl ?_) (fun s1 s2 => br_f (by decide) ⟨ws_in hp, ?_⟩)
    · refine wx_next hp ?_
      rw [g1, nI_1]
      refine hD y (by omega) ?_
      rcases s with s | ⟨i, hi, s⟩
      · refine Or.inl ?_
        by_cases c : n ≤ r
        · have := d3.2.1 c
          omega
        · omega
      · exact Or.inr ⟨i, hi, (tab i hi).mp s⟩
    · have hnr : n ≤ r := by
        by_cases c : n ≤ r
        · exact c
        · have := (d3.1 (by omega)).1
          omega
      rw [ws_r (by omega) lc]
      exact wx_end hp et ht (hC hnr (by omega) (by omega) (fun i hi c => s2 i hi ((tab i hi).mpr c)))
  · rw [ws_r (by omega) hV]
    exact wx_end hp et ht (hA y1 y2)
end
