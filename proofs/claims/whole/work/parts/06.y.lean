/-! the reference's own methods, each with a general post -/
theorem ws_i64 (p j : Nat) : nI p * 64 + nI j = nI (p * 64 + j) := by
  rw [show (64 : Int32) = nI 64 from rfl, pk_mul, nI_add]
section
variable {n L w ub : Nat} {wr wn ca H ph st rd it sw ew lb yv ra : Nat → Int32}
theorem wy_in {post : Int32 → Prop} {p : Nat} (hp : p < n) (hn : n ≤ 6) (h : post 0) : wpY_outside post ((nI w), (nI n), (nI L), (nI ub), wr, wn, ca, H, ph, st, rd, it, sw, ew, lb, yv, ra) (nI p) := br_f (nI_pos (by omega)) (br_t (nI_lt hp (by omega)) h)
theorem wy_out {post : Int32 → Prop} {x : Int32} (hx : x < 0 ∨ nI n ≤ x) (h : post 1) : wpY_outside post ((nI w), (nI n), (nI L), (nI ub), wr, wn, ca, H, ph, st, rd, it, sw, ew, lb, yv, ra) x := by
  by_cases z : x < 0
  · exact br_t z h
  · exact br_f z (br_f (Int32.not_lt.mpr (hx.resolve_left z)) h)
theorem wy_countAt_lp {post : Int32 → Prop} {j v : Nat} (hv : v ≤ 128) : ∀ d k : Nat, k + d = v → post (nI (ws_cnt wr j v)) → wY_countAt_5 post (nI j) (nI v) (nI w) (nI n) (nI L) (nI ub) wr wn ca H ph st rd it sw ew lb yv ra (d + 1) (nI (ws_cnt wr j k)) (nI k) := by
  intro d
  induction d with
  | zero =>
    intro k hk h
    have e : k = v := by omega
    subst e
    exact br_t (nI_le (Nat.le_refl _) (by omega)) h
  | succ d ih =>
    intro k hk h
    refine br_f (nI_ge (by omega) (by omega)) (br_f (nI_ge (a := k) (b := 128) (by omega) (by omega)) ⟨ws_in (by omega), ?_⟩)
    rw [ws_r (by omega) wr]
    have g := ih (k + 1) (by omega) h
    rw [ws_cnt_s] at g
    by_cases z : wr k = nI j
    · rw [if_pos z] at g
      exact br_t z (nm_r (nI_1 _) (nm_r (nI_1 k) g))
    · rw [if_neg z] at g
      exact br_f z (nm_r (nI_1 k) g)
theorem wy_countAt {post : Int32 → Prop} {j v : Nat} (hv : v ≤ 128) (h : post (nI (ws_cnt wr j v))) : wpY_countAt post ((nI w), (nI n), (nI L), (nI ub), wr, wn, ca, H, ph, st, rd, it, sw, ew, lb, yv, ra) (nI j) (nI v) := ⟨v + 1, wy_countAt_lp hv v 0 (by omega) h⟩
theorem wy_valueAt_lp {post : Int32 → Prop} {j v : Nat} (hv : v ≤ 128) : ∀ d k : Nat, k + d = v → post (ws_last wr wn j v) → wY_valueAt_5 post (nI j) (nI v) (nI w) (nI n) (nI L) (nI ub) wr wn ca H ph st rd it sw ew lb yv ra (d + 1) (ws_last wr wn j k) (nI k) := by
  intro d
  induction d with
  | zero =>
    intro k hk h
    have e : k = v := by omega
    subst e
    exact br_t (nI_le (Nat.le_refl _) (by omega)) h
  | succ d ih =>
    intro k hk h
    refine br_f (nI_ge (by omega) (by omega)) (br_f (nI_ge (a := k) (b := 128) (by omega) (by omega)) ⟨ws_in (by omega), ?_⟩)
    rw [ws_r (by omega) wr]
    have g := ih (k + 1) (by omega) h
    rw [ws_last_s] at g
    by_cases z : wr k = nI j
    · rw [if_pos z] at g
      exact br_t z ⟨ws_in (by omega), nm_r (ws_r (by omega) wn) (nm_r (nI_1 k) g)⟩
    · rw [if_neg z] at g
      exact br_f z (nm_r (nI_1 k) g)
theorem wy_valueAt {post : Int32 → Prop} {j v : Nat} (hv : v ≤ 128) (h : post (ws_last wr wn j v)) : wpY_valueAt post ((nI w), (nI n), (nI L), (nI ub), wr, wn, ca, H, ph, st, rd, it, sw, ew, lb, yv, ra) (nI j) (nI v) := ⟨v + 1, wy_valueAt_lp hv v 0 (by omega) h⟩
theorem wy_heldBy_lp {post : Int32 → Prop} {j : Nat} (hv : w ≤ 128) : ∀ d k : Nat, k + d = w → post (ws_last wr ca j w) → wY_heldBy_4 post (nI j) (nI w) (nI n) (nI L) (nI ub) wr wn ca H ph st rd it sw ew lb yv ra (d + 1) (ws_last wr ca j k) (nI k) := by
  intro d
  induction d with
  | zero =>
    intro k hk h
    have e : k = w := by omega
    subst e
    exact br_t (nI_le (Nat.le_refl _) (by omega)) h
  | succ d ih =>
    intro k hk h
    refine br_f (nI_ge (by omega) (by omega)) (br_f (nI_ge (a := k) (b := 128) (by omega) (by omega)) ⟨ws_in (by omega), ?_⟩)
    rw [ws_r (by omega) wr]
    have g := ih (k + 1) (by omega) h
    rw [ws_last_s] at g
    by_cases z : wr k = nI j
    · rw [if_pos z] at g
      exact br_t z ⟨ws_in (by omega), nm_r (ws_r (by omega) ca) (nm_r (nI_1 k) g)⟩
    · rw [if_neg z] at g
      exact br_f z (nm_r (nI_1 k) g)
theorem wy_heldBy {post : Int32 → Prop} {j : Nat} (hv : w ≤ 128) (h : post (ws_last wr ca j w)) : wpY_heldBy post ((nI w), (nI n), (nI L), (nI ub), wr, wn, ca, H, ph, st, rd, it, sw, ew, lb, yv, ra) (nI j) := ⟨w + 1, wy_heldBy_lp hv w 0 (by omega) h⟩
theorem wy_reads_lp {post : Int32 → Prop} {i j r : Nat} (hi : i < 6) (h2 : 2 ≤ n) (h6 : n ≤ 6) (hj : j < n) (hr : r ≤ 64) (er : rd i = nI r) : ∀ d k : Nat, k + d = r → post (ws_rd (fun s => ra (i * 64 + s)) n j r) → wY_versionFor_53 post (nI i) (nI j) (nI w) (nI n) (nI L) (nI ub) wr wn ca H ph st rd it sw ew lb yv ra (d + 1) (ws_rd (fun s => ra (i * 64 + s)) n j k) (nI k) := by
  intro d
  induction d with
  | zero =>
    intro k hk h
    have e : k = r := by omega
    subst e
    refine ⟨ws_in hi, br_t ?_ h⟩
    rw [ws_r (by omega) rd, er]
    exact nI_le (Nat.le_refl _) (by omega)
  | succ d ih =>
    intro k hk h
    refine ⟨ws_in hi, br_f ?_ (br_f (nI_ge (a := k) (b := 64) (by omega) (by omega)) ⟨nI_ne0 (by omega) (by omega), ?_⟩)⟩
    · rw [ws_r (by omega) rd, er]
      exact nI_ge (by omega) (by omega)
    rw [pk_rem (a := k) (d := n) (by omega) (by omega) (by omega), ws_i64]
    have g := ih (k + 1) (by omega) h
    rw [ws_rd_s] at g
    have hm := ws_ml h2 k
    by_cases z : k % n = j
    · rw [if_pos z] at g
      exact br_t (by rw [z]) ⟨ws_in (by omega), nm_r (ws_r (by omega) ra) (nm_r (nI_1 k) g)⟩
    · rw [if_neg z] at g
      exact br_f (fun y => z ((nI_eq (by omega) (by omega)).mp y)) (nm_r (nI_1 k) g)
theorem wy_moved_lp {post : Int32 → Prop} {p j r : Nat} (hp : p < 6) (h2 : 2 ≤ n) (h6 : n ≤ 6) (hj : j < n) (hr : r ≤ 64) (er : rd p = nI r) (hw : w ≤ 128) (hR : ws_Rds w (fun s => ra (p * 64 + s)) r) : ∀ d k : Nat, n ≤ k → k + d = r → post (nI (ws_mv wr (fun s => ra (p * 64 + s)) n j r)) → wY_movedIn_26 post (nI p) (nI j) (nI w) (nI n) (nI L) (nI ub) wr wn ca H ph st rd it sw ew lb yv ra (d + 1) (nI (ws_mv wr (fun s => ra (p * 64 + s)) n j k)) (nI k) := by
  intro d
  induction d with
  | zero =>
    intro k hnk hk h
    have e : k = r := by omega
    subst e
    refine ⟨ws_in hp, br_t ?_ h⟩
    rw [ws_r (by omega) rd, er]
    exact nI_le (Nat.le_refl _) (by omega)
  | succ d ih =>
    intro k hnk hk h
    refine ⟨ws_in hp, br_f ?_ (br_f (nI_ge (a := k) (b := 64) (by omega) (by omega)) ⟨nI_ne0 (by omega) (by omega), ?_⟩)⟩
    · rw [ws_r (by omega) rd, er]
      exact nI_ge (by omega) (by omega)
    rw [pk_rem (a := k) (d := n) (by omega) (by omega) (by omega), ws_i64]
    have g := ih (k + 1) (by omega) (by omega) h
    rw [ws_mv_s] at g
    have hm := ws_ml h2 k
    by_cases z : k % n = j
    · refine br_t (by rw [z]) ⟨ws_in (by omega), ?_⟩
      obtain ⟨a, ha, ea⟩ := hR k (by omega)
      obtain ⟨b, hb, eb⟩ := hR (k - n) (by omega)
      dsimp only at ea eb g
      rw [ea, eb, nI_clamp (by omega), nI_clamp (by omega)] at g
      rw [ws_r (by omega) ra, ea, pk_sub (show n ≤ p * 64 + k by omega), show p * 64 + k - n = p * 64 + (k - n) by omega]
      refine wy_countAt (by omega) ⟨ws_in (by omega), ?_⟩
      rw [ws_r (by omega) ra, eb]
      refine wy_countAt (by omega) ?_
      have c1 := ws_cnt_le wr j a
      have c2 := ws_cnt_le wr j b
      refine pk_le (ws_cnt wr j a) (ws_cnt wr j b) (fun q => ?_) (fun q => ⟨nI_ne0 (by omega) (by omega), ?_⟩)
      · rw [if_neg (by omega)] at g
        exact nm_r (nI_1 k) g
      · rw [if_pos ⟨hnk, z, q⟩] at g
        refine nm_r (e' := nI (k / n + 1)) ?_ (nm_r (nI_1 k) g)
        rw [pk_div (by omega) (by omega) (by omega), nI_1]
    · rw [if_neg (fun y => z y.2.1)] at g
      exact br_f (fun y => z ((nI_eq (by omega) (by omega)).mp y)) (nm_r (nI_1 k) g)
theorem wy_movedIn {post : Int32 → Prop} {p j r : Nat} (hp : p < n) (h2 : 2 ≤ n) (h6 : n ≤ 6) (hj : j < n) (hr : r ≤ 64) (er : rd p = nI r) (hw : w ≤ 128) (hR : ws_Rds w (fun s => ra (p * 64 + s)) r) (h : post (nI (ws_mv wr (fun s => ra (p * 64 + s)) n j r))) : wpY_movedIn post ((nI w), (nI n), (nI L), (nI ub), wr, wn, ca, H, ph, st, rd, it, sw, ew, lb, yv, ra) (nI p) (nI j) := by
  unfold wpY_movedIn
  refine wy_in hp h6 (br_t rfl ?_)
  refine wy_in hj h6 (br_t rfl ?_)
  by_cases z : n ≤ r
  · have g := wy_moved_lp (post := post) (L := L) (ub := ub) (wr := wr) (wn := wn) (ca := ca) (H := H) (ph := ph) (st := st) (it := it) (sw := sw) (ew := ew) (lb := lb) (yv := yv) (show p < 6 by omega) h2 h6 hj hr er hw hR (r - n) n (Nat.le_refl n) (by omega) h
    rw [ws_mv_0 wr _ n j n (Nat.le_refl n)] at g
    exact ⟨_, g⟩
  · rw [ws_mv_0 wr _ n j r (by omega)] at h
    refine ⟨1, ⟨ws_in (by omega), br_t ?_ h⟩⟩
    rw [ws_r (by omega) rd, er]
    exact nI_le (by omega) (by omega)
theorem wy_endReading {post : SY → Prop} {p t t' : Nat} {x y : Int32} (hp : p < 6) (et : ph p = nI t) (ht : (t = 1 ∧ t' = 0) ∨ (t = 2 ∧ t' = 3))
    (h : post ((nI w), (nI n), (nI L), (nI ub), wr, wn, ca, H, (upd ph p (nI t')), st, rd, it, sw, (upd ew p (nI w)), (upd lb p y), (upd yv p x), ra)) : wpY_endReading post ((nI w), (nI n), (nI L), (nI ub), wr, wn, ca, H, ph, st, rd, it, sw, ew, lb, yv, ra) (nI p) x y := by
  have i : vp_in (nI p) 6 := ws_in hp
  refine ⟨i, nm_r (ws_u (by omega) yv x) ⟨i, nm_r (ws_u (by omega) lb y) ⟨i, nm_r (ws_u (by omega) ew (nI w)) ⟨i, ?_⟩⟩⟩⟩
  rw [ws_r (by omega) ph, et]
  rcases ht with ⟨rfl, rfl⟩ | ⟨rfl, rfl⟩
  · exact br_f (by decide) ⟨i, nm_r (ws_u (by omega) ph 0) h⟩
  · exact br_t rfl ⟨i, nm_r (ws_u (by omega) ph 3) h⟩
theorem wy_clean_lp {post : SY → Prop} {p r c x2 x3 : Nat} {R : Nat} (hp : p < n) (h2 : 2 ≤ n) (h6 : n ≤ 6) (hr : R ≤ 64) (er : rd p = nI R) (hw : w ≤ 128) (hR : ws_Rds w (fun s => ra (p * 64 + s)) R) (hc : c < 2 ^ 31)
    (h0 : (∀ i, i < n → ¬ ws_mv wr (fun s => ra (p * 64 + s)) n i R = c) → (vp_in ((nI x3 + nI x2) - nI n) 384 ∧ wpY_endReading post ((nI w), (nI n), (nI L), (nI ub), wr, wn, ca, H, ph, st, rd, it, sw, ew, lb, yv, ra) (nI p) (ra ((nI x3 + nI x2) - nI n).toNatClampNeg) (-7)))
    (h1 : (∃ i, i < n ∧ ws_mv wr (fun s => ra (p * 64 + s)) n i R = c) → post ((nI w), (nI n), (nI L), (nI ub), wr, wn, ca, H, ph, st, rd, it, sw, ew, lb, yv, ra)) : ∀ d k : Nat, ∀ f : Int32, k + d = n →
    ((f = 0 ∧ ∀ i, i < k → ¬ ws_mv wr (fun s => ra (p * 64 + s)) n i R = c) ∨ (f = 1 ∧ ∃ i, i < k ∧ ws_mv wr (fun s => ra (p * 64 + s)) n i R = c)) →
    wY_read_140 post (nI p) (nI x2) (nI x3) (nI c) (nI w) (nI n) (nI L) (nI ub) wr wn ca H ph st rd it sw ew lb yv ra (d + 1) f (nI k) := by
  intro d
  induction d with
  | zero =>
    intro k f hk hf
    have e : k = n := by omega
    subst e
    refine br_t (nI_le (Nat.le_refl _) (by omega)) ?_
    rcases hf with ⟨rfl, hf⟩ | ⟨rfl, hf⟩
    · exact br_t rfl (h0 hf)
    · exact br_f (by decide) (h1 hf)
  | succ d ih =>
    intro k f hk hf
    refine br_f (nI_ge (by omega) (by omega)) ?_
    refine wy_movedIn hp h2 h6 (show k < n by omega) hr er hw hR ?_
    have b := ws_mv_le wr (fun s => ra (p * 64 + s)) n k R
    refine pk_eq (ws_mv wr (fun s => ra (p * 64 + s)) n k R) c (fun z => ?_) (fun z => ?_)
    · exact nm_r (nI_1 k) (ih (k + 1) 1 (by omega) (Or.inr ⟨rfl, k, by omega, z⟩))
    · refine nm_r (nI_1 k) (ih (k + 1) f (by omega) ?_)
      rcases hf with ⟨e, hf⟩ | ⟨e, i, hi, hf⟩
      · refine Or.inl ⟨e, fun i hi => ?_⟩
        by_cases q : i = k
        · rw [q]
          exact z
        · exact hf i (by omega)
      · exact Or.inr ⟨e, i, by omega, hf⟩
end
