/-! the start -/
theorem ws_cl (lo hi : Nat) (hl : lo ≤ hi) (hh : hi < 2 ^ 31) (x : Int32) : ∃ m : Nat, lo ≤ m ∧ m ≤ hi ∧ ((nI lo ≤ x ∧ x ≤ nI hi ∧ x = nI m) ∨ (nI lo ≤ x ∧ ¬ x ≤ nI hi ∧ m = hi) ∨ (¬ nI lo ≤ x ∧ m = lo)) := by
  by_cases a : nI lo ≤ x
  · by_cases b : x ≤ nI hi
    · have c : ¬ x < 0 := fun y => Int32.lt_irrefl (Int32.lt_of_lt_of_le y (Int32.le_trans (nI_pos' (show lo < 2 ^ 31 by omega)) a))
      obtain ⟨m, hm, rfl⟩ := nI_of c
      rw [nI_leI (by omega) hm] at a
      rw [nI_leI hm hh] at b
      exact ⟨m, a, b, Or.inl ⟨(nI_leI (by omega) hm).mpr a, (nI_leI hm hh).mpr b, rfl⟩⟩
    · exact ⟨hi, hl, Nat.le_refl hi, Or.inr (Or.inl ⟨a, b, rfl⟩)⟩
  · exact ⟨lo, Nat.le_refl lo, hl, Or.inr (Or.inr ⟨a, rfl⟩)⟩
theorem wx_clamp {post : Int32 → Prop} {x : Int32} {lo hi m : Nat} (c : (nI lo ≤ x ∧ x ≤ nI hi ∧ x = nI m) ∨ (nI lo ≤ x ∧ ¬ x ≤ nI hi ∧ m = hi) ∨ (¬ nI lo ≤ x ∧ m = lo)) (h : post (nI m)) : wpX_clamp post x (nI lo) (nI hi) := by
  unfold wpX_clamp
  rcases c with ⟨a, b, e⟩ | ⟨a, b, e⟩ | ⟨a, e⟩
  · rw [← e] at h
    exact br_t a (br_t b h)
  · subst e
    exact br_t a (br_f b h)
  · subst e
    exact br_f a h
theorem ws_uz (k : Nat) : upd (fun _ => 0) k 0 = fun _ => 0 := by
  funext x
  show (if x = k then (0 : Int32) else 0) = 0
  split <;> rfl
theorem ws_fz (b k : Nat) : ws_fill (fun _ => 0) b k 0 = fun _ => 0 := by
  funext x
  show (if _ then (0 : Int32) else 0) = 0
  split <;> rfl
theorem ws_f0 (f : Nat → Int32) (k : Nat) (c : Int32) : upd (ws_fill f 0 k c) k c = ws_fill f 0 (k + 1) c := by
  have e := ws_fill_s f 0 k c
  rw [Nat.zero_add] at e
  exact e
theorem ws_fr (f : Nat → Int32) (k : Nat) (c : Int32) : ws_fill (ws_fill f 0 (k * 6) c) (k * 6) 6 c = ws_fill f 0 ((k + 1) * 6) c := by
  funext x
  by_cases z : k * 6 ≤ x ∧ x < k * 6 + 6
  · have a : ws_fill (ws_fill f 0 (k * 6) c) (k * 6) 6 c x = c := if_pos z
    have b : ws_fill f 0 ((k + 1) * 6) c x = c := if_pos (by omega)
    rw [a, b]
  · have a : ws_fill (ws_fill f 0 (k * 6) c) (k * 6) 6 c x = ws_fill f 0 (k * 6) c x := if_neg z
    rw [a]
    by_cases y : 0 ≤ x ∧ x < 0 + k * 6
    · have b : ws_fill f 0 ((k + 1) * 6) c x = c := if_pos (by omega)
      have d : ws_fill f 0 (k * 6) c x = c := if_pos y
      rw [b, d]
    · have b : ws_fill f 0 ((k + 1) * 6) c x = f x := if_neg (by omega)
      have d : ws_fill f 0 (k * 6) c x = f x := if_neg y
      rw [b, d]
def ws_z : Nat → Int32 := fun _ => 0
section
variable {n L : Nat}
theorem wx_init_lp {post : SX → Prop} : ∀ d k : Nat, k + d = 6 →
    post ((nI n), (nI L), (nI 0), (nI 0), ws_z, ws_z, ws_z, ws_z, ws_z, ws_z, ws_z, (ws_fill ws_z 0 6 (-6)), (ws_fill ws_z 0 6 (-6)), (ws_fill ws_z 0 6 (-6)), (ws_fill ws_z 0 6 (-6)), (ws_fill ws_z 0 6 1), ws_z, ws_z, ws_z, ws_z, (ws_fill ws_z 0 (6 * 6) (-6))) →
    wX_init_167 post (d + 1) (nI k) (nI n) (nI L) (nI 0) (nI 0) ws_z ws_z ws_z ws_z ws_z ws_z ws_z (ws_fill ws_z 0 k (-6)) (ws_fill ws_z 0 k (-6)) (ws_fill ws_z 0 k (-6)) (ws_fill ws_z 0 k (-6)) (ws_fill ws_z 0 k 1) ws_z ws_z ws_z ws_z (ws_fill ws_z 0 (k * 6) (-6)) := by
  intro d
  induction d with
  | zero =>
    intro k hk h
    have e : k = 6 := by omega
    subst e
    exact br_t (nI_le (a := 6) (b := 6) (by omega) (by omega)) h
  | succ d ih =>
    intro k hk h
    have hk6 : k < 6 := by omega
    have g := ih (k + 1) (by omega) h
    have z1 : upd ws_z k 0 = ws_z := ws_uz k
    have z2 : ws_fill ws_z (k * 6) 6 0 = ws_z := ws_fz (k * 6) 6
    rw [← ws_fr ws_z k (-6), ← ws_f0 ws_z k 1, ← ws_f0 ws_z k (-6)] at g
    refine br_f (nI_ge (a := k) (b := 6) (by omega) (by omega)) (wx_forget hk6 ⟨ws_in hk6, nm_r (ws_u (by omega) _ (-6)) (nm_r (nI_1 k) ?_)⟩)
    rw [z1, z2]
    exact g
theorem wy_init_lp {post : SY → Prop} : ∀ d k : Nat, k + d = 6 →
    post ((nI 0), (nI n), (nI L), (nI 0), ws_z, ws_z, ws_z, ws_z, ws_z, ws_z, ws_z, ws_z, (ws_fill ws_z 0 6 (-6)), (ws_fill ws_z 0 6 (-6)), (ws_fill ws_z 0 6 (-6)), ws_z, ws_z) →
    wY_init_166 post (nI 0) (nI n) (nI L) (nI 0) (d + 1) (nI k) ws_z ws_z ws_z ws_z ws_z ws_z ws_z ws_z (ws_fill ws_z 0 k (-6)) (ws_fill ws_z 0 k (-6)) (ws_fill ws_z 0 k (-6)) ws_z ws_z := by
  intro d
  induction d with
  | zero =>
    intro k hk h
    have e : k = 6 := by omega
    subst e
    exact br_t (nI_le (a := 6) (b := 6) (by omega) (by omega)) h
  | succ d ih =>
    intro k hk h
    have hk6 : k < 6 := by omega
    have g := ih (k + 1) (by omega) h
    have e : upd (ws_fill ws_z 0 k (-6)) (nI k).toNatClampNeg (-6) = ws_fill ws_z 0 (k + 1) (-6) := by
      rw [ws_u (by omega)]
      exact ws_f0 ws_z k (-6)
    exact br_f (nI_ge (a := k) (b := 6) (by omega) (by omega)) ⟨ws_in hk6, nm_r e ⟨ws_in hk6, nm_r e ⟨ws_in hk6, nm_r e (nm_r (nI_1 k) g)⟩⟩⟩
theorem ws_R0 (h2 : 2 ≤ n) (h6 : n ≤ 6) (hL : L ≤ 128) : ws_R n L 0 0 ws_z ws_z ws_z ws_z (ws_fill ws_z 0 6 (-6)) (ws_fill ws_z 0 6 (-6)) (ws_fill ws_z 0 6 1) ws_z ws_z ws_z ws_z (ws_fill ws_z 0 (6 * 6) (-6)) ws_z ws_z ws_z ws_z ws_z ws_z := by
  refine ⟨h2, h6, hL, by omega, ?_, ws_V_init, ws_H_init n, ?_⟩
  · rw [show ws_act ws_z n = 0 from ws_act_0 n]
    exact Nat.le_refl 0
  · intro p hp
    have a : ws_fill ws_z 0 6 (-6) p = -6 := if_pos (by omega)
    rw [a]
    exact ws_P_init (fun j hj => rfl) (fun j hj => if_pos (by omega)) h6
theorem wx_init {post : SX → Prop} {x y : Int32} (c : (nI 2 ≤ x ∧ x ≤ nI 6 ∧ x = nI n) ∨ (nI 2 ≤ x ∧ ¬ x ≤ nI 6 ∧ n = 6) ∨ (¬ nI 2 ≤ x ∧ n = 2)) (d : (nI 4 ≤ y ∧ y ≤ nI 128 ∧ y = nI L) ∨ (nI 4 ≤ y ∧ ¬ y ≤ nI 128 ∧ L = 128) ∨ (¬ nI 4 ≤ y ∧ L = 4))
    (h : post ((nI n), (nI L), (nI 0), (nI 0), ws_z, ws_z, ws_z, ws_z, ws_z, ws_z, ws_z, (ws_fill ws_z 0 6 (-6)), (ws_fill ws_z 0 6 (-6)), (ws_fill ws_z 0 6 (-6)), (ws_fill ws_z 0 6 (-6)), (ws_fill ws_z 0 6 1), ws_z, ws_z, ws_z, ws_z, (ws_fill ws_z 0 (6 * 6) (-6)))) : wpX_init post x y := by
  unfold wpX_init
  refine wx_clamp (lo := 2) (hi := 6) (m := n) c ?_
  refine wx_clamp (lo := 4) (hi := 128) (m := L) d ?_
  have g := wx_init_lp (post := post) 6 0 rfl h
  rw [Nat.zero_mul, ws_fill_0, ws_fill_0] at g
  exact ⟨7, g⟩
theorem wy_init_b {post : SY → Prop} {y : Int32} (d : (nI 4 ≤ y ∧ y ≤ nI 128 ∧ y = nI L) ∨ (nI 4 ≤ y ∧ ¬ y ≤ nI 128 ∧ L = 128) ∨ (¬ nI 4 ≤ y ∧ L = 4))
    (h : post ((nI 0), (nI n), (nI L), (nI 0), ws_z, ws_z, ws_z, ws_z, ws_z, ws_z, ws_z, ws_z, (ws_fill ws_z 0 6 (-6)), (ws_fill ws_z 0 6 (-6)), (ws_fill ws_z 0 6 (-6)), ws_z, ws_z)) :
    wY_init_134 post y (nI n) 0 0 0 0 ws_z ws_z ws_z ws_z ws_z ws_z ws_z ws_z ws_z ws_z ws_z ws_z ws_z := by
  have g := wy_init_lp (post := post) 6 0 rfl h
  rw [ws_fill_0] at g
  rcases d with ⟨a, b, e⟩ | ⟨a, b, e⟩ | ⟨a, e⟩
  · rw [← e] at g
    exact br_t a (br_t b ⟨7, g⟩)
  · subst e
    exact br_t a (br_f b ⟨7, g⟩)
  · subst e
    exact br_f a ⟨7, g⟩
theorem wy_init {post : SY → Prop} {x y : Int32} (c : (nI 2 ≤ x ∧ x ≤ nI 6 ∧ x = nI n) ∨ (nI 2 ≤ x ∧ ¬ x ≤ nI 6 ∧ n = 6) ∨ (¬ nI 2 ≤ x ∧ n = 2)) (d : (nI 4 ≤ y ∧ y ≤ nI 128 ∧ y = nI L) ∨ (nI 4 ≤ y ∧ ¬ y ≤ nI 128 ∧ L = 128) ∨ (¬ nI 4 ≤ y ∧ L = 4))
    (h : post ((nI 0), (nI n), (nI L), (nI 0), ws_z, ws_z, ws_z, ws_z, ws_z, ws_z, ws_z, ws_z, (ws_fill ws_z 0 6 (-6)), (ws_fill ws_z 0 6 (-6)), (ws_fill ws_z 0 6 (-6)), ws_z, ws_z)) : wpY_init post x y := by
  have g := wy_init_b (post := post) d h
  unfold wpY_init
  rcases c with ⟨a, b, e⟩ | ⟨a, b, e⟩ | ⟨a, e⟩
  · rw [← e] at g
    exact br_t a (br_t b g)
  · subst e
    exact br_t a (br_f b g)
  · subst e
    exact br_f a g
end
