/-! arguments' tests at their methods' names; the label question; the constructors -/
section
variable {n M i a : Nat} {x m : Int32} {w b c d now ta : Nat → Int32} {post : Int32 → Prop}
theorem lx_pos_f (h : lc_out x n) (hp : post 0) : wpX_isPosition post (nI n, m, w, b, c, d) x := lc_o1 h rfl hp
theorem lx_pos_t (hn : n ≤ 6) (hi : i < n) (hp : post 1) : wpX_isPosition post (nI n, m, w, b, c, d) (nI i) := lc_i1 hi (by omega) rfl hp
theorem lx_lab_f (h : lc_out x 3) (hp : post 0) : wpX_isLabel post x := lc_o1 h rfl hp
theorem lx_lab_t (ha : a < 3) (hp : post 1) : wpX_isLabel post (nI a) := lc_i1 ha (by omega) rfl hp
theorem lx_wt_f (h : lc_out x 10) (hp : post 0) : wpX_isWeight post x := lc_o2 (by decide) h rfl hp
theorem lx_wt_t (ha : a < 10) (hp : post 1) : wpX_isWeight post (nI a) := lc_i2 ha (by decide) rfl hp
theorem ly_pos_f (h : lc_out x n) (hp : post 0) : wpY_isPosition post (nI n, w, c, b, d, now, ta) x := lc_o1 h rfl hp
theorem ly_pos_t (hn : n ≤ 6) (hi : i < n) (hp : post 1) : wpY_isPosition post (nI n, w, c, b, d, now, ta) (nI i) := lc_i1 hi (by omega) rfl hp
theorem ly_lab_f (h : lc_out x 3) (hp : post 0) : wpY_isLabel post (nI n, w, c, b, d, now, ta) x := lc_o2 (by decide) h rfl hp
theorem ly_lab_t (ha : a < 3) (hp : post 1) : wpY_isLabel post (nI n, w, c, b, d, now, ta) (nI a) := lc_i2 ha (by decide) rfl hp
theorem lc_3 (i a : Nat) : 3 * nI i + nI a = nI (3 * i + a) := by
  rw [← nI_add, ← pk_mul]
  rfl
theorem lc_n2 (h1 : 1 ≤ n) (h6 : n ≤ 6) : nI n - 2 = lc_f (n - 1) := by
  have h : n = 1 ∨ n = 2 ∨ n = 3 ∨ n = 4 ∨ n = 5 ∨ n = 6 := by omega
  rcases h with rfl | rfl | rfl | rfl | rfl | rfl <;> decide +kernel
theorem lx_label (hn0 : 1 ≤ n) (hn : n ≤ 6) (hM : M ≤ 729) (hw : lc_W w) (hc : lc_W c) (hi : i < n) (post : Int32 → Prop) (h : post (lc_lab n i (lc_fk (lc_al b d n) (lc_S w c n) M))) : wpX_label post (nI n, nI M, w, b, c, d) (nI i) := by
  unfold wpX_label
  dsimp only
  refine lx_pos_t hn hi (br_f (by decide) (lx_best hn0 hn hM hw hc _ ?_))
  rw [lc_G_mx (fun L => lc_S99 hw hc hn L)]
  rcases lc_fk_s (lc_al b d n) (lc_S w c n) M with ⟨e1, e2⟩ | ⟨k, hk, e1, hA, e2, hF⟩
  · rw [e1] at h
    exact ⟨_, lx_lb0 hn0 hn hM _ post h (lc_mx_0 e2) M 0 (by omega)⟩
  · rw [e1] at h
    rw [e2]
    exact ⟨_, lx_lb1 hn0 hn hM hw hc hi hk hA hF post h M 0 (by omega) (by omega)⟩
/-- ones at the first places -/
def lc_one : Nat → Nat → Int32
  | 0 => fun _ => 0
  | k + 1 => upd (lc_one k) k 1
theorem lc_one_W : ∀ k, lc_W (lc_one k) := by
  intro k
  induction k with
  | zero => exact fun j => ⟨0, by decide, rfl⟩
  | succ k ih => exact lc_W_upd ih k 1 (by decide)
theorem lx_i78 (post : SX → Prop) (p l : Int32) (h : post (p, l, w, b, lc_one 9, d)) : ∀ t s, s + t = 9 → wX_init_78 post p l (t + 1) (nI s) w b (lc_one s) d := by
  intro t
  induction t with
  | zero =>
    intro s hs
    have e : s = 9 := by omega
    rw [e]
    exact br_t (by decide) h
  | succ t ih =>
    intro s hs
    refine br_f (nI_ge (b := 9) (by omega) (by decide)) ⟨vp_in_nI (by omega) (by decide), nm_r ?_ (nm_r (nI_1 s) (ih (s + 1) (by omega)))⟩
    rw [nI_clamp (show s < 2 ^ 31 by omega)]
    rfl
theorem lx_i57 (post : SX → Prop) (p l : Int32) (h : post (p, l, lc_one 18, b, lc_one 9, d)) : ∀ t s, s + t = 18 → wX_init_57 post p l (t + 1) (nI s) (lc_one s) b (lc_one 0) d := by
  intro t
  induction t with
  | zero =>
    intro s hs
    have e : s = 18 := by omega
    rw [e]
    exact br_t (by decide) ⟨_, lx_i78 post p l h 9 0 (by omega)⟩
  | succ t ih =>
    intro s hs
    refine br_f (nI_ge (b := 18) (by omega) (by decide)) ⟨vp_in_nI (by omega) (by decide), nm_r ?_ (nm_r (nI_1 s) (ih (s + 1) (by omega)))⟩
    rw [nI_clamp (show s < 2 ^ 31 by omega)]
    rfl
theorem ly_i100 (post : SY → Prop) (p : Int32) (h : post (p, w, lc_one 9, b, d, now, ta)) : ∀ t s, s + t = 9 → wY_init_100 post p (t + 1) (nI s) w (lc_one s) b d now ta := by
  intro t
  induction t with
  | zero =>
    intro s hs
    have e : s = 9 := by omega
    rw [e]
    exact br_t (by decide) h
  | succ t ih =>
    intro s hs
    refine br_f (nI_ge (b := 9) (by omega) (by decide)) ⟨vp_in_nI (by omega) (by decide), nm_r ?_ (nm_r (nI_1 s) (ih (s + 1) (by omega)))⟩
    rw [nI_clamp (show s < 2 ^ 31 by omega)]
    rfl
theorem ly_i79 (post : SY → Prop) (p : Int32) (h : post (p, lc_one 18, lc_one 9, b, d, now, ta)) : ∀ t s, s + t = 18 → wY_init_79 post p (t + 1) (nI s) (lc_one s) (lc_one 0) b d now ta := by
  intro t
  induction t with
  | zero =>
    intro s hs
    have e : s = 18 := by omega
    rw [e]
    exact br_t (by decide) ⟨_, ly_i100 post p h 9 0 (by omega)⟩
  | succ t ih =>
    intro s hs
    refine br_f (nI_ge (b := 18) (by omega) (by decide)) ⟨vp_in_nI (by omega) (by decide), nm_r ?_ (nm_r (nI_1 s) (ih (s + 1) (by omega)))⟩
    rw [nI_clamp (show s < 2 ^ 31 by omega)]
    rfl
theorem lx_ini (post : SX → Prop) (p : Int32) (hp : p = nI n) (hn : n ≤ 6) (h : post (nI n, nI (3 ^ n), lc_one 18, lc_one 0, lc_one 9, lc_one 0)) : wpX_numberOfLabellings (fun r => ∃ n57 : Nat, wX_init_57 post p r n57 0 (fun _ => 0) (fun _ => 0) (fun _ => 0) (fun _ => 0)) p := by
  subst hp
  exact lx_numberOf _ hn ⟨_, lx_i57 post _ _ h 18 0 (by omega)⟩
end
