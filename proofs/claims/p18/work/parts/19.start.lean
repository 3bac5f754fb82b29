/-! the start of the law -/
theorem wx_clamp {post : Int32 → Prop} {x : Int32} {lo hi m : Nat} (c : (nI lo ≤ x ∧ x ≤ nI hi ∧ x = nI m) ∨ (nI lo ≤ x ∧ ¬ x ≤ nI hi ∧ m = hi) ∨ (¬ nI lo ≤ x ∧ m = lo)) (h : post (nI m)) : wpX_clamp post () x (nI lo) (nI hi) := by
  unfold wpX_clamp
  rcases c with ⟨a, b, e⟩ | ⟨a, b, e⟩ | ⟨a, e⟩
  · rw [← e] at h
    exact br_t a (br_t b h)
  · subst e
    exact br_t a (br_f b h)
  · subst e
    exact br_f a h
theorem ws_uz (k : Nat) : upd (fun _ => 0) k 0 = fun _ => 0 := by
  funext x
  show (if x = k then (0 : Int32) else 0) = 0
  split <;> rfl
theorem ws_fz (b k : Nat) : ws_fill (fun _ => 0) b k 0 = fun _ => 0 := by
  funext x
  show (if _ then (0 : Int32) else 0) = 0
  split <;> rfl
theorem ws_f0 (f : Nat → Int32) (k : Nat) (c : Int32) : upd (ws_fill f 0 k c) k c = ws_fill f 0 (k + 1) c := by
  have e := ws_fill_s f 0 k c
  rw [Nat.zero_add] at e
  exact e
theorem ws_fr (f : Nat → Int32) (k : Nat) (c : Int32) : ws_fill (ws_fill f 0 (k * 6) c) (k * 6) 6 c = ws_fill f 0 ((k + 1) * 6) c := by
  funext x
  by_cases z : k * 6 ≤ x ∧ x < k * 6 + 6
  · have a : ws_fill (ws_fill f 0 (k * 6) c) (k * 6) 6 c x = c := if_pos z
    have b : ws_fill f 0 ((k + 1) * 6) c x = c := if_pos (by omega)
    rw [a, b]
  · have a : ws_fill (ws_fill f 0 (k * 6) c) (k * 6) 6 c x = ws_fill f 0 (k * 6) c x := if_neg z
    rw [a]
    by_cases y : 0 ≤ x ∧ x < 0 + k * 6
    · have b : ws_fill f 0 ((k + 1) * 6) c x = c := if_pos (by omega)
      have d : ws_fill f 0 (k * 6) c x = c := if_pos y
      rw [b, d]
    · have b : ws_fill f 0 ((k + 1) * 6) c x = f x := if_neg (by omega)
      have d : ws_fill f 0 (k * 6) c x = f x := if_neg y
      rw [b, d]
def ws_z : Nat → Int32 := fun _ => 0
section
variable {n L : Nat}
theorem wx_init_lp {post : St2 → Prop} {a1 a2 a3 a4 : Nat} : ∀ d k : Nat, k + d = 6 →
    post ((nI n), (nI L), (nI 0), (nI 0), ws_z, ws_z, ws_z, ws_z, ws_z, ws_z, ws_z, (ws_fill ws_z 0 6 (-6)), (ws_fill ws_z 0 6 (-6)), (ws_fill ws_z 0 6 (-6)), (ws_fill ws_z 0 6 (-6)), (ws_fill ws_z 0 6 1), ws_z, ws_z, ws_z, ws_z, (ws_fill ws_z 0 (6 * 6) (-6))) →
    wX_init_167 post a1 a2 a3 a4 (d + 1) (nI k) (nI n) (nI L) (nI 0) (nI 0) ws_z ws_z ws_z ws_z ws_z ws_z ws_z (ws_fill ws_z 0 k (-6)) (ws_fill ws_z 0 k (-6)) (ws_fill ws_z 0 k (-6)) (ws_fill ws_z 0 k (-6)) (ws_fill ws_z 0 k 1) ws_z ws_z ws_z ws_z (ws_fill ws_z 0 (k * 6) (-6)) := by
  intro d
  induction d with
  | zero =>
    intro k hk h
    have e : k = 6 := by omega
    subst e
    exact br_t (nI_le (a := 6) (b := 6) (by omega) (by omega)) h
  | succ d ih =>
    intro k hk h
    have hk6 : k < 6 := by omega
    have g := ih (k + 1) (by omega) h
    have z1 : upd ws_z k 0 = ws_z := ws_uz k
    have z2 : ws_fill ws_z (k * 6) 6 0 = ws_z := ws_fz (k * 6) 6
    rw [← ws_fr ws_z k (-6), ← ws_f0 ws_z k 1, ← ws_f0 ws_z k (-6)] at g
    refine br_f (nI_ge (a := k) (b := 6) (by omega) (by omega)) (wx_forget hk6 ⟨ws_in hk6, nm_r (ws_u (by omega) _ (-6)) (nm_r (nI_1 k) ?_)⟩)
    rw [z1, z2]
    exact g
theorem wq_R0 {m : Int32} (h2 : 2 ≤ n) (h6 : n ≤ 6) (hL : L ≤ 63) : wq_R n L 0 0 m (fun _ => 0) ws_z ws_z ws_z ws_z ws_z ws_z (ws_fill ws_z 0 6 (-6)) (ws_fill ws_z 0 6 (-6)) (ws_fill ws_z 0 6 (-6)) (ws_fill ws_z 0 6 1) ws_z ws_z ws_z ws_z (ws_fill ws_z 0 (6 * 6) (-6)) ws_z ws_z ws_z ws_z := by
  refine ⟨h2, h6, hL, by omega, ?_, ws_V_init, fun j hj => ⟨0, Nat.le_refl 0, rfl, Nat.zero_le _⟩, fun t ht => by omega, ?_, ?_⟩
  · rw [show ws_act ws_z n = 0 from ws_act_0 n]
    exact Nat.le_refl 0
  · intro p hp
    have a : ws_fill ws_z 0 6 (-6) p = -6 := if_pos (by omega)
    rw [a]
    exact ws_P_init (fun j hj => rfl) (fun j hj => if_pos (by omega)) h6
  · intro p hp
    have a : ws_fill ws_z 0 6 (-6) p = -6 := if_pos (by omega)
    exact ⟨0, 0, 0, rfl, by omega, rfl, by omega, rfl, by omega, Nat.zero_le 1, fun z => absurd rfl z, fun z => by omega, fun z => by omega, Or.inl ⟨rfl, rfl, a⟩⟩
theorem wq_init {post : St2 → Prop} (h2 : 2 ≤ n) (h6 : n ≤ 6) (h4 : 4 ≤ L) (hL : L ≤ 128)
    (h : post ((nI n), (nI L), (nI 0), (nI 0), ws_z, ws_z, ws_z, ws_z, ws_z, ws_z, ws_z, (ws_fill ws_z 0 6 (-6)), (ws_fill ws_z 0 6 (-6)), (ws_fill ws_z 0 6 (-6)), (ws_fill ws_z 0 6 (-6)), (ws_fill ws_z 0 6 1), ws_z, ws_z, ws_z, ws_z, (ws_fill ws_z 0 (6 * 6) (-6)))) : wpX_init post 17 1728 (0, 0, 0, 0) (nI n) (nI L) := by
  have c : wpX_clamp (fun r_69 => (wpX_clamp (fun r_70 => (∃ fu167 : Nat, wX_init_167 post 17 1728 17 1728 fu167 0 r_69 r_70 0 0 (fun _ => 0) (fun _ => 0) (fun _ => 0) (fun _ => 0) (fun _ => 0) (fun _ => 0) (fun _ => 0) (fun _ => 0) (fun _ => 0) (fun _ => 0) (fun _ => 0) (fun _ => 0) (fun _ => 0) (fun _ => 0) (fun _ => 0) (fun _ => 0) (fun _ => 0))) () (nI L) 4 128)) () (nI n) 2 6 := by
    refine wx_clamp (lo := 2) (hi := 6) (m := n) (Or.inl ⟨nI_le h2 (by omega), nI_le h6 (by omega), rfl⟩) ?_
    refine wx_clamp (lo := 4) (hi := 128) (m := L) (Or.inl ⟨nI_le h4 (by omega), nI_le hL (by omega), rfl⟩) ?_
    have g := wx_init_lp (post := post) (a1 := 17) (a2 := 1728) (a3 := 17) (a4 := 1728) 6 0 rfl h
    rw [Nat.zero_mul, ws_fill_0, ws_fill_0] at g
    exact ⟨7, g⟩
  unfold wpX_init
  exact ⟨by omega, by omega, by omega, by omega, by omega, by omega, by omega, by omega, by omega, by omega, by omega, by omega, by omega, by omega, by omega, by omega, by omega, by omega, by omega, by omega, by omega, by omega, by omega, by omega, by omega, by omega, by omega, by omega, by omega, by omega, by omega, by omega, by omega, by omega, c⟩
end
