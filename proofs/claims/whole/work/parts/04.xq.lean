/-! the component's questions -/
section
variable {n M i : Nat} {w b c d : Nat → Int32}
theorem lx_alw (hn0 : 1 ≤ n) (hn : n ≤ 6) (hM : M ≤ 729) (post : Int32 → Prop) (h : post (nI (lc_cnt (lc_al b d n) M))) : ∀ t m, m + t = M → wX_allowed_4 post (nI n) (nI M) w b c d (t + 1) (nI (lc_cnt (lc_al b d n) m)) (nI m) := by
  intro t
  induction t with
  | zero =>
    intro m hm
    have e : m = M := by omega
    rw [e]
    exact br_t (nI_le (by omega) (by omega)) h
  | succ t ih =>
    intro m hm
    have q := ih (m + 1) (by omega)
    refine br_f (nI_ge (by omega) (by omega)) (lx_isAllowed hn0 hn (by omega) _ (br_c (fun z => ?_) (fun z => ?_)))
    · rw [lc_cnt_f (lc_b0.mp z)] at q
      exact nm_r (nI_1 m) q
    · rw [lc_cnt_t (lc_bt z)] at q
      exact nm_r (nI_1 _) (nm_r (nI_1 m) q)
theorem lx_allowed (hn0 : 1 ≤ n) (hn : n ≤ 6) (hM : M ≤ 729) (post : Int32 → Prop) (h : post (nI (lc_cnt (lc_al b d n) M))) : wpX_allowed post (nI n, nI M, w, b, c, d) :=
  ⟨_, lx_alw hn0 hn hM post h M 0 (by omega)⟩
theorem lx_gr (hn0 : 1 ≤ n) (hn : n ≤ 6) (hM : M ≤ 729) (hw : lc_W w) (hc : lc_W c) {lim : Nat} (hl : lim ≤ 100) (post : Int32 → Prop) (h : post (lc_e (lc_G (lc_al b d n) (lc_S w c n) M lim))) : ∀ t m, m + t = M → wX_greatestSumBelow_5 post (nI lim) (nI n) (nI M) w b c d (t + 1) (lc_e (lc_G (lc_al b d n) (lc_S w c n) m lim)) (nI m) := by
  intro t
  induction t with
  | zero =>
    intro m hm
    have e : m = M := by omega
    rw [e]
    exact br_t (nI_le (by omega) (by omega)) h
  | succ t ih =>
    intro m hm
    have q := ih (m + 1) (by omega)
    unfold lc_G at q ⊢
    have hS := lc_S99 hw hc hn m
    have hG : lc_mx (lc_gp (lc_al b d n) (lc_S w c n) lim) (lc_S w c n) m ≤ lim := lc_G_le (lc_al b d n) (lc_S w c n) m lim
    refine br_f (nI_ge (by omega) (by omega)) (lx_isAllowed hn0 hn (by omega) _ (br_c (fun z => ?_) (fun z => ?_)))
    · rw [lc_mx_f (lc_nt (fun y => by have := (lc_gp_t.mp y).1; rw [lc_b0.mp z] at this; exact absurd this (by decide)))] at q
      exact nm_r (nI_1 m) q
    · refine lx_sumOf hn0 hn hw hc (by omega) _ ?_
      by_cases hs : lim ≤ lc_S w c n m
      · rw [lc_mx_f (lc_nt (fun y => by have := (lc_gp_t.mp y).2; omega))] at q
        exact br_t (nI_le hs (by omega)) (nm_r (nI_1 m) q)
      · refine br_f (nI_ge (by omega) (by omega)) ?_
        by_cases hg : lc_S w c n m + 1 ≤ lc_mx (lc_gp (lc_al b d n) (lc_S w c n) lim) (lc_S w c n) m
        · rw [lc_mx_g (by omega)] at q
          exact br_t ((lc_e_ge (by omega) (by omega)).mpr hg) (nm_r (nI_1 m) q)
        · rw [lc_mx_t (lc_gp_t.mpr ⟨lc_bt z, by omega⟩) (by omega)] at q
          exact br_f (fun y => hg ((lc_e_ge (by omega) (by omega)).mp y)) (nm_r (nI_1 m) q)
theorem lx_greatest (hn0 : 1 ≤ n) (hn : n ≤ 6) (hM : M ≤ 729) (hw : lc_W w) (hc : lc_W c) {lim : Nat} (hl : lim ≤ 100) (post : Int32 → Prop) (h : post (lc_e (lc_G (lc_al b d n) (lc_S w c n) M lim))) : wpX_greatestSumBelow post (nI n, nI M, w, b, c, d) (nI lim) :=
  ⟨_, lx_gr hn0 hn hM hw hc hl post h M 0 (by omega)⟩
theorem lx_best (hn0 : 1 ≤ n) (hn : n ≤ 6) (hM : M ≤ 729) (hw : lc_W w) (hc : lc_W c) (post : Int32 → Prop) (h : post (lc_e (lc_G (lc_al b d n) (lc_S w c n) M 100))) : wpX_best post (nI n, nI M, w, b, c, d) := by
  unfold wpX_best
  dsimp only
  exact lx_greatest (lim := 100) hn0 hn hM hw hc (by omega) _ h
theorem lx_cs (hn0 : 1 ≤ n) (hn : n ≤ 6) (hM : M ≤ 729) (hw : lc_W w) (hc : lc_W c) {k : Nat} (hk : k ≤ 100) (post : Int32 → Prop) (h : post (nI (lc_T (lc_al b d n) (lc_S w c n) M k))) : ∀ t m, m + t = M → wX_countWithSum_4 post (lc_e k) (nI n) (nI M) w b c d (t + 1) (nI (lc_T (lc_al b d n) (lc_S w c n) m k)) (nI m) := by
  intro t
  induction t with
  | zero =>
    intro m hm
    have e : m = M := by omega
    rw [e]
    exact br_t (nI_le (by omega) (by omega)) h
  | succ t ih =>
    intro m hm
    have q := ih (m + 1) (by omega)
    unfold lc_T at q ⊢
    have hS := lc_S99 hw hc hn m
    refine br_f (nI_ge (by omega) (by omega)) (lx_isAllowed hn0 hn (by omega) _ (br_c (fun z => ?_) (fun z => ?_)))
    · rw [lc_cnt_f (lc_nt (fun y => by have := (lc_tp_t.mp y).1; rw [lc_b0.mp z] at this; exact absurd this (by decide)))] at q
      exact nm_r (nI_1 m) q
    · refine lx_sumOf hn0 hn hw hc (by omega) _ (br_c (fun y => ?_) (fun y => ?_))
      · rw [lc_cnt_t (lc_tp_t.mpr ⟨lc_bt z, (lc_e_eq (by omega) (by omega)).mp y⟩)] at q
        exact nm_r (nI_1 _) (nm_r (nI_1 m) q)
      · rw [lc_cnt_f (lc_nt (fun x => y ((lc_e_eq (by omega) (by omega)).mpr (lc_tp_t.mp x).2)))] at q
        exact nm_r (nI_1 m) q
theorem lx_count (hn0 : 1 ≤ n) (hn : n ≤ 6) (hM : M ≤ 729) (hw : lc_W w) (hc : lc_W c) {k : Nat} (hk : k ≤ 100) (post : Int32 → Prop) (h : post (nI (lc_T (lc_al b d n) (lc_S w c n) M k))) : wpX_countWithSum post (nI n, nI M, w, b, c, d) (lc_e k) :=
  ⟨_, lx_cs hn0 hn hM hw hc hk post h M 0 (by omega)⟩
theorem lx_bestCount (hn0 : 1 ≤ n) (hn : n ≤ 6) (hM : M ≤ 729) (hw : lc_W w) (hc : lc_W c) (post : Int32 → Prop) (h : post (nI (lc_T (lc_al b d n) (lc_S w c n) M (lc_G (lc_al b d n) (lc_S w c n) M 100)))) : wpX_bestCount post (nI n, nI M, w, b, c, d) := by
  unfold wpX_bestCount
  dsimp only
  refine lx_best hn0 hn hM hw hc _ ?_
  exact lx_count hn0 hn hM hw hc (lc_G_le _ _ _ _) _ h
theorem lx_rk (hn0 : 1 ≤ n) (hn : n ≤ 6) (hM : M ≤ 729) (hw : lc_W w) (hc : lc_W c) {k : Nat} (hk : k ≤ 7) (post : Int32 → Prop) : ∀ t step left lim, step + t = k → step + left ≤ k → lim ≤ 100 → post (lc_e (lc_yr (lc_T (lc_al b d n) (lc_S w c n) M) k (lc_G (lc_al b d n) (lc_S w c n) M lim) (k - left))) → wX_ranked_22 post (nI k) (nI n) (nI M) w b c d (t + 1) (nI left) (lc_e (lc_G (lc_al b d n) (lc_S w c n) M lim)) (nI step) := by
  intro t
  induction t with
  | zero =>
    intro step left lim hs hle hl h
    refine br_t (nI_le (by omega) (by omega)) ?_
    have hT := lc_T_G (lc_al b d n) (lc_S w c n) M lim
    revert h hT
    generalize lc_G (lc_al b d n) (lc_S w c n) M lim = G
    intro h hT
    cases G with
    | zero => exact h
    | succ g =>
      rw [lc_yr_t (by omega)] at h
      exact h
  | succ t ih =>
    intro step left lim hs hle hl h
    have hT := lc_T_G (lc_al b d n) (lc_S w c n) M lim
    have hG := lc_G_le (lc_al b d n) (lc_S w c n) M lim
    revert h hT hG
    generalize lc_G (lc_al b d n) (lc_S w c n) M lim = G
    intro h hT hG
    refine br_f (nI_ge (by omega) (by omega)) (br_c (fun z => ?_) (fun z => ?_))
    · have e := (lc_e_n (by omega)).mp z
      subst e
      exact h
    · refine lx_count hn0 hn hM hw hc (by omega) _ ?_
      have hTM : lc_T (lc_al b d n) (lc_S w c n) M G ≤ M := lc_cnt_le _ M
      cases G with
      | zero => exact absurd rfl z
      | succ g =>
        by_cases hc2 : lc_T (lc_al b d n) (lc_S w c n) M (g + 1) ≤ left
        · refine br_t (nI_le hc2 (by omega)) (nm_r (pk_sub hc2) (lx_greatest (lim := g) hn0 hn hM hw hc (by omega) _ (nm_r (nI_1 step) (ih (step + 1) _ g (by omega) (by omega) (by omega) ?_))))
          rw [lc_yr_f (by omega), lc_yr_G (by omega)] at h
          rw [show k - (left - lc_T (lc_al b d n) (lc_S w c n) M (g + 1)) = k - left + lc_T (lc_al b d n) (lc_S w c n) M (g + 1) by omega]
          exact h
        · refine br_f (nI_ge (by omega) (by omega)) ?_
          rw [lc_yr_t (by omega)] at h
          exact h
theorem lx_ranked (hn0 : 1 ≤ n) (hn : n ≤ 6) (hM : M ≤ 729) (hw : lc_W w) (hc : lc_W c) {k : Nat} (hk : k ≤ 7) (post : Int32 → Prop) (h : post (lc_e (lc_yr (lc_T (lc_al b d n) (lc_S w c n) M) k 100 0))) : wpX_ranked post (nI n, nI M, w, b, c, d) (nI k) := by
  refine br_f (nI_pos (by omega)) (br_t (nI_le (b := 7) hk (by decide)) (lx_best hn0 hn hM hw hc _ ⟨k + 1, ?_⟩))
  refine lx_rk hn0 hn hM hw hc hk post k 0 k 100 (by omega) (by omega) (by omega) ?_
  rw [Nat.sub_self, ← lc_yr_G (by omega)]
  exact h
theorem lx_lb0 (hn0 : 1 ≤ n) (hn : n ≤ 6) (hM : M ≤ 729) (x : Int32) (post : Int32 → Prop) (h : post (-2)) (h0 : ∀ L, L < M → lc_al b d n L = false) : ∀ t m, m + t = M → wX_label_17 post (nI i) x (nI n) (nI M) w b c d (t + 1) (nI m) := by
  intro t
  induction t with
  | zero => exact fun m hm => br_t (nI_le (by omega) (by omega)) h
  | succ t ih =>
    intro m hm
    refine br_f (nI_ge (by omega) (by omega)) (lx_isAllowed hn0 hn (by omega) _ ?_)
    rw [h0 m (by omega)]
    exact br_t rfl (nm_r (nI_1 m) (ih (m + 1) (by omega)))
theorem lx_lb1 (hn0 : 1 ≤ n) (hn : n ≤ 6) (hM : M ≤ 729) (hw : lc_W w) (hc : lc_W c) (hi : i < n) {k : Nat} (hk : k < M) (hA : lc_al b d n k = true) (hF : ∀ L, L < k → lc_al b d n L = true → lc_S w c n L < lc_S w c n k) (post : Int32 → Prop) (h : post (nI (lc_d n k i))) : ∀ t m, m + t = M → m ≤ k → wX_label_17 post (nI i) (lc_e (lc_S w c n k + 1)) (nI n) (nI M) w b c d (t + 1) (nI m) := by
  intro t
  induction t with
  | zero => exact fun m hm hmk => absurd hmk (by omega)
  | succ t ih =>
    intro m hm hmk
    have hS := lc_S99 hw hc hn m
    have hS2 := lc_S99 hw hc hn k
    refine br_f (nI_ge (by omega) (by omega)) (lx_isAllowed hn0 hn (by omega) _ (br_c (fun z => ?_) (fun z => lx_sumOf hn0 hn hw hc (by omega) _ (br_c (fun y => ?_) (fun y => ?_)))))
    · refine nm_r (nI_1 m) (ih (m + 1) (by omega) ?_)
      by_cases e : m = k
      · rw [e, hA] at z
        exact absurd z (by decide)
      · omega
    · have e : lc_S w c n m + 1 = lc_S w c n k + 1 := (lc_e_eq (by omega) (by omega)).mp y
      have e2 : m = k := by
        by_cases e3 : m = k
        · exact e3
        · have := hF m (by omega) (lc_bt z)
          omega
      rw [e2]
      exact lx_labelAt hn hi (by omega) _ h
    · refine nm_r (nI_1 m) (ih (m + 1) (by omega) ?_)
      by_cases e : m = k
      · exact absurd ((lc_e_eq (by omega) (by omega)).mpr (by rw [e])) y
      · omega
end
