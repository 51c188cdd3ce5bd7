/-! the component's questions, further; its arguments' tests -/
section
variable {n M i a : Nat} {w b c d : Nat → Int32}
theorem lx_bt (hn0 : 1 ≤ n) (hn : n ≤ 6) (hM : M ≤ 729) (hw : lc_W w) (hc : lc_W c) (hi : i < n) (ha : a < 3) (post : Int32 → Prop) (h : post (lc_e (lc_mx (lc_th (lc_al b d n) n i a) (lc_S w c n) M))) : ∀ t m, m + t = M → lc_mx (lc_th (lc_al b d n) n i a) (lc_S w c n) m ≤ 100 → wX_bestThrough_23 post (nI i) (nI a) (nI n) (nI M) w b c d (t + 1) (lc_e (lc_mx (lc_th (lc_al b d n) n i a) (lc_S w c n) m)) (nI m) := by
  intro t
  induction t with
  | zero =>
    intro m hm _
    have e : m = M := by omega
    rw [e]
    exact br_t (nI_le (by omega) (by omega)) h
  | succ t ih =>
    intro m hm hG
    have q := ih (m + 1) (by omega)
    have hS := lc_S99 hw hc hn m
    have hd := lc_d3 n m i
    refine br_f (nI_ge (by omega) (by omega)) (lx_labelAt (i := i) hn hi (by omega) _ (br_c (fun x => ?_) (fun x => ?_)))
    · have x2 : lc_d n m i = a := (nI_eq (by omega) (by omega)).mp x
      refine lx_isAllowed hn0 hn (by omega) _ (br_c (fun z => ?_) (fun z => ?_))
      · rw [lc_mx_f (lc_nA lc_th_t (lc_b0.mp z))] at q
        exact nm_r (nI_1 m) (q hG)
      · refine lx_sumOf hn0 hn hw hc (by omega) _ ?_
        by_cases hg : lc_S w c n m + 1 ≤ lc_mx (lc_th (lc_al b d n) n i a) (lc_S w c n) m
        · rw [lc_mx_g (by omega)] at q
          exact br_t ((lc_e_ge (by omega) (by omega)).mpr hg) (nm_r (nI_1 m) (q hG))
        · rw [lc_mx_t (lc_th_t.mpr ⟨lc_bt z, x2⟩) (by omega)] at q
          exact br_f (fun y => hg ((lc_e_ge (by omega) (by omega)).mp y)) (nm_r (nI_1 m) (q (by omega)))
    · rw [lc_mx_f (lc_nB lc_th_t (fun y => x (by rw [y])))] at q
      exact nm_r (nI_1 m) (q hG)
theorem lx_tt (hn0 : 1 ≤ n) (hn : n ≤ 6) (hM : M ≤ 729) (post : Int64 → Prop) (h : post (lc_tot (lc_al b d n) (lc_P w c n) M)) : ∀ t m, m + t = M → wX_total_4 post (nI n) (nI M) w b c d (t + 1) (lc_tot (lc_al b d n) (lc_P w c n) m) (nI m) := by
  intro t
  induction t with
  | zero =>
    intro m hm
    have e : m = M := by omega
    rw [e]
    exact br_t (nI_le (by omega) (by omega)) h
  | succ t ih =>
    intro m hm
    have q := ih (m + 1) (by omega)
    refine br_f (nI_ge (by omega) (by omega)) (lx_isAllowed hn0 hn (by omega) _ (br_c (fun z => ?_) (fun z => ?_)))
    · rw [lc_tot_f (lc_b0.mp z)] at q
      exact nm_r (nI_1 m) q
    · rw [lc_tot_t (lc_bt z)] at q
      exact lx_productOf hn0 hn (by omega) _ (nm_e (nm_r (nI_1 m) q))
theorem lx_total (hn0 : 1 ≤ n) (hn : n ≤ 6) (hM : M ≤ 729) (post : Int64 → Prop) (h : post (lc_tot (lc_al b d n) (lc_P w c n) M)) : wpX_total post (nI n, nI M, w, b, c, d) :=
  ⟨_, lx_tt hn0 hn hM post h M 0 (by omega)⟩
theorem lx_tr (hn0 : 1 ≤ n) (hn : n ≤ 6) (hM : M ≤ 729) (hi : i < n) (ha : a < 3) (post : Int64 → Prop) (h : post (lc_tot (lc_th (lc_al b d n) n i a) (lc_P w c n) M)) : ∀ t m, m + t = M → wX_through_22 post (nI i) (nI a) (nI n) (nI M) w b c d (t + 1) (lc_tot (lc_th (lc_al b d n) n i a) (lc_P w c n) m) (nI m) := by
  intro t
  induction t with
  | zero =>
    intro m hm
    have e : m = M := by omega
    rw [e]
    exact br_t (nI_le (by omega) (by omega)) h
  | succ t ih =>
    intro m hm
    have q := ih (m + 1) (by omega)
    have hd := lc_d3 n m i
    refine br_f (nI_ge (by omega) (by omega)) (lx_labelAt (i := i) hn hi (by omega) _ (br_c (fun x => ?_) (fun x => ?_)))
    · have x2 : lc_d n m i = a := (nI_eq (by omega) (by omega)).mp x
      refine lx_isAllowed hn0 hn (by omega) _ (br_c (fun z => ?_) (fun z => ?_))
      · rw [lc_tot_f (lc_nA lc_th_t (lc_b0.mp z))] at q
        exact nm_r (nI_1 m) q
      · rw [lc_tot_t (lc_th_t.mpr ⟨lc_bt z, x2⟩)] at q
        exact lx_productOf hn0 hn (by omega) _ (nm_e (nm_r (nI_1 m) q))
    · rw [lc_tot_f (lc_nB lc_th_t (fun y => x (by rw [y])))] at q
      exact nm_r (nI_1 m) q
theorem lx_tc (hn0 : 1 ≤ n) (hn : n ≤ 6) (hM : M ≤ 729) (hi : i < n - 1) (ha : a < 9) (post : Int64 → Prop) (h : post (lc_tot (lc_tc (lc_al b d n) n i a) (lc_P w c n) M)) : ∀ t m, m + t = M → wX_throughCouple_31 post (nI i) (nI a) (nI n) (nI M) w b c d (t + 1) (lc_tot (lc_tc (lc_al b d n) n i a) (lc_P w c n) m) (nI m) := by
  intro t
  induction t with
  | zero =>
    intro m hm
    have e : m = M := by omega
    rw [e]
    exact br_t (nI_le (by omega) (by omega)) h
  | succ t ih =>
    intro m hm
    have q := ih (m + 1) (by omega)
    have hd := lc_q9 n m i
    refine br_f (nI_ge (by omega) (by omega)) (lx_coupleAt hn hi (by omega) _ (br_c (fun x => ?_) (fun x => ?_)))
    · have x2 : lc_q n m i = a := (nI_eq (by omega) (by omega)).mp x
      refine lx_isAllowed hn0 hn (by omega) _ (br_c (fun z => ?_) (fun z => ?_))
      · rw [lc_tot_f (lc_nA lc_tc_t (lc_b0.mp z))] at q
        exact nm_r (nI_1 m) q
      · rw [lc_tot_t (lc_tc_t.mpr ⟨lc_bt z, x2⟩)] at q
        exact lx_productOf hn0 hn (by omega) _ (nm_e (nm_r (nI_1 m) q))
    · rw [lc_tot_f (lc_nB lc_tc_t (fun y => x (by rw [y])))] at q
      exact nm_r (nI_1 m) q
/-- an int outside 0 .. k-1 -/
def lc_out (x : Int32) (k : Nat) : Prop := x < 0 ∨ nI k ≤ x
theorem lc_io (x : Int32) {k : Nat} (hk : k < 2 ^ 31) : lc_out x k ∨ ∃ j, j < k ∧ x = nI j := by
  rcases pk_ix x hk with h | h | h
  · exact Or.inl (Or.inl h)
  · exact Or.inl (Or.inr h)
  · exact Or.inr h
/-- the test '0 <= x, x < k', in the three forms that are printed -/
theorem lc_o1 {x y : Int32} {k : Nat} (h : lc_out x k) (hy : y = nI k) {A B : Prop} (a : A) : (x < 0 → A) ∧ (¬ x < 0 → ((y ≤ x → A) ∧ (¬ y ≤ x → B))) := by
  subst hy
  by_cases z : x < 0
  · exact br_t z a
  · exact br_f z (br_t (h.resolve_left z) a)
theorem lc_i1 {y : Int32} {k j : Nat} (h : j < k) (hk : k < 2 ^ 31) (hy : y = nI k) {A B : Prop} (e : B) : (nI j < 0 → A) ∧ (¬ nI j < 0 → ((y ≤ nI j → A) ∧ (¬ y ≤ nI j → B))) := by
  subst hy
  exact br_f (nI_pos (by omega)) (br_f (nI_ge h hk) e)
theorem lc_o2 {x y : Int32} {k : Nat} (hk : k < 2 ^ 31) (h : lc_out x k) (hy : y = lc_f k) {A B : Prop} (a : A) : (x < 0 → A) ∧ (¬ x < 0 → ((y < x → A) ∧ (¬ y < x → B))) := by
  subst hy
  by_cases z : x < 0
  · exact br_t z a
  · exact br_f z (br_t ((lc_f_lt hk x).mpr (h.resolve_left z)) a)
theorem lc_i2 {y : Int32} {k j : Nat} (h : j < k) (hk : k < 2 ^ 31) (hy : y = lc_f k) {A B : Prop} (e : B) : (nI j < 0 → A) ∧ (¬ nI j < 0 → ((y < nI j → A) ∧ (¬ y < nI j → B))) := by
  subst hy
  exact br_f (nI_pos (by omega)) (br_f (fun z => nI_ge h hk ((lc_f_lt hk _).mp z)) e)
theorem lc_o3 {x y : Int32} {k : Nat} (hk : k < 2 ^ 31) (h : lc_out x k) (hy : y = lc_f k) {A B : Prop} (a : A) : (x < 0 → A) ∧ (¬ x < 0 → ((x ≤ y → B) ∧ (¬ x ≤ y → A))) := by
  subst hy
  by_cases z : x < 0
  · exact br_t z a
  · exact br_f z (br_f (Int32.not_le.mpr ((lc_f_lt hk x).mpr (h.resolve_left z))) a)
theorem lc_i3 {y : Int32} {k j : Nat} (h : j < k) (hk : k < 2 ^ 31) (hy : y = lc_f k) {A B : Prop} (e : B) : (nI j < 0 → A) ∧ (¬ nI j < 0 → ((nI j ≤ y → B) ∧ (¬ nI j ≤ y → A))) := by
  subst hy
  exact br_f (nI_pos (by omega)) (br_t ((lc_f_ge (by omega) hk).mpr h) e)
theorem lc_o4 {x y : Int32} {k : Nat} (h : lc_out x k) (hy : y = nI k) {A B : Prop} (a : A) : (x < 0 → A) ∧ (¬ x < 0 → ((x < y → B) ∧ (¬ x < y → A))) := by
  subst hy
  by_cases z : x < 0
  · exact br_t z a
  · exact br_f z (br_f (Int32.not_lt.mpr (h.resolve_left z)) a)
theorem lc_i4 {y : Int32} {k j : Nat} (h : j < k) (hk : k < 2 ^ 31) (hy : y = nI k) {A B : Prop} (e : B) : (nI j < 0 → A) ∧ (¬ nI j < 0 → ((nI j < y → B) ∧ (¬ nI j < y → A))) := by
  subst hy
  exact br_f (nI_pos (by omega)) (br_t (nI_lt h hk) e)
end
