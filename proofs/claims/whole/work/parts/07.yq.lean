/-! the reference's questions -/
/-- the label at i of the labelling that is coded -/
def lc_lab (n i : Nat) : Nat → Int32
  | 0 => -2
  | k + 1 => nI (lc_d n k i)
/-- the tally over the labellings below m -/
def lc_ta (A : Nat → Bool) (S : Nat → Nat) (m : Nat) (ta : Nat → Int32) : Prop := ∀ s, s < 100 → ta s = nI (lc_T A S m (s + 1))
theorem lc_mx_b {S : Nat → Nat} (h : ∀ L, S L ≤ 99) (p : Nat → Bool) (m : Nat) : lc_mx p S m ≤ 100 := by
  rcases lc_mx_at p S m with e | ⟨L, _, _, e⟩
  · omega
  · have := h L
    omega
section
variable {n M i a : Nat} {w b c d : Nat → Int32}
theorem ly_alw (hn0 : 1 ≤ n) (hn : n ≤ 6) (hM : M = 3 ^ n) (h7 : M ≤ 729) {ta : Nat → Int32} (post : Int32 → SY → Prop) (h : ∀ now, post (nI (lc_cnt (lc_al b d n) M)) (nI n, w, c, b, d, now, ta)) : ∀ t m now, m + t = M → wY_allowed_9 post (nI M) (t + 1) (nI (lc_cnt (lc_al b d n) m)) (nI m) (nI n) w c b d now ta := by
  intro t
  induction t with
  | zero =>
    intro m now hm
    have e : m = M := by omega
    rw [e]
    exact br_t (nI_le (by omega) (by omega)) (h now)
  | succ t ih =>
    intro m now hm
    refine br_f (nI_ge (by omega) (by omega)) (ly_write hn0 hn (by omega) _ (fun now2 hN => ?_))
    have q := ih (m + 1) now2 (by omega)
    refine br_c (fun z => ?_) (fun z => ?_)
    · rw [lc_cnt_f (lc_b0.mp z)] at q
      exact nm_r (nI_1 m) q
    · rw [lc_cnt_t (lc_bt z)] at q
      exact nm_r (nI_1 _) (nm_r (nI_1 m) q)
theorem ly_allowed (hn0 : 1 ≤ n) (hn : n ≤ 6) (hM : M = 3 ^ n) (h7 : M ≤ 729) {now ta : Nat → Int32} (post : Int32 → SY → Prop) (h : ∀ now, post (nI (lc_cnt (lc_al b d n) M)) (nI n, w, c, b, d, now, ta)) : wpY_allowed post (nI n, w, c, b, d, now, ta) := by
  unfold wpY_allowed
  dsimp only
  refine ly_labellings hn _ ⟨M + 1, ?_⟩
  rw [← hM]
  exact ly_alw hn0 hn hM h7 post h M 0 now (by omega)
theorem ly_fs (hn0 : 1 ≤ n) (hn : n ≤ 6) (hM : M = 3 ^ n) (h7 : M ≤ 729) (hw : lc_W w) (hc : lc_W c) {ta : Nat → Int32} (post : Int32 → SY → Prop) (h : ∀ now, post (lc_f (lc_fk (lc_al b d n) (lc_S w c n) M)) (nI n, w, c, b, d, now, ta)) : ∀ t m now, m + t = M → wY_first_12 post (nI M) (t + 1) (lc_f (lc_fk (lc_al b d n) (lc_S w c n) m)) (lc_f (lc_mx (lc_al b d n) (lc_S w c n) m)) (nI m) (nI n) w c b d now ta := by
  intro t
  induction t with
  | zero =>
    intro m now hm
    have e : m = M := by omega
    rw [e]
    exact br_t (nI_le (by omega) (by omega)) (h now)
  | succ t ih =>
    intro m now hm
    have hS := lc_S99 hw hc hn m
    have hG := lc_mx_b (fun L => lc_S99 hw hc hn L) (lc_al b d n) m
    refine br_f (nI_ge (by omega) (by omega)) (ly_write hn0 hn (by omega) _ (fun now2 hN => ?_))
    have q := ih (m + 1) now2 (by omega)
    refine br_c (fun z => ?_) (fun z => ?_)
    · rw [lc_fk_f (lc_b0.mp z), lc_mx_f (lc_b0.mp z)] at q
      exact nm_r (nI_1 m) q
    · refine ly_sum hn hw hc hN _ ?_
      by_cases hg : lc_S w c n m + 1 ≤ lc_mx (lc_al b d n) (lc_S w c n) m
      · rw [lc_fk_g (by omega), lc_mx_g (by omega)] at q
        exact br_t ((lc_f_ge (by omega) (by omega)).mpr hg) (nm_r (nI_1 m) q)
      · rw [lc_fk_t (lc_bt z) (by omega), lc_mx_t (lc_bt z) (by omega)] at q
        exact br_f (fun y => hg ((lc_f_ge (by omega) (by omega)).mp y)) (nm_r (nI_1 m) q)
theorem ly_first (hn0 : 1 ≤ n) (hn : n ≤ 6) (hM : M = 3 ^ n) (h7 : M ≤ 729) (hw : lc_W w) (hc : lc_W c) {now ta : Nat → Int32} (post : Int32 → SY → Prop) (h : ∀ now, post (lc_f (lc_fk (lc_al b d n) (lc_S w c n) M)) (nI n, w, c, b, d, now, ta)) : wpY_first post (nI n, w, c, b, d, now, ta) := by
  unfold wpY_first
  dsimp only
  refine ly_labellings hn _ ⟨M + 1, ?_⟩
  rw [← hM]
  exact ly_fs hn0 hn hM h7 hw hc post h M 0 now (by omega)
theorem ly_best (hn0 : 1 ≤ n) (hn : n ≤ 6) (hM : M = 3 ^ n) (h7 : M ≤ 729) (hw : lc_W w) (hc : lc_W c) {now ta : Nat → Int32} (post : Int32 → SY → Prop) (h : ∀ now, post (lc_e (lc_mx (lc_al b d n) (lc_S w c n) M)) (nI n, w, c, b, d, now, ta)) : wpY_best post (nI n, w, c, b, d, now, ta) := by
  unfold wpY_best
  dsimp only
  refine ly_first hn0 hn hM h7 hw hc _ (fun now2 => ?_)
  dsimp only
  rcases lc_fk_s (lc_al b d n) (lc_S w c n) M with ⟨e1, e2⟩ | ⟨k, hk, e1, _, e2, _⟩
  · rw [e1]
    rw [e2] at h
    exact br_f (by decide) (h now2)
  · rw [e1]
    rw [e2] at h
    refine br_t (nI_pos' (by omega)) (ly_write hn0 hn (by omega) _ (fun now3 hN => ?_))
    exact ly_sum hn hw hc hN _ (h now3)
theorem ly_label (hn0 : 1 ≤ n) (hn : n ≤ 6) (hM : M = 3 ^ n) (h7 : M ≤ 729) (hw : lc_W w) (hc : lc_W c) (hi : i < n) {now ta : Nat → Int32} (post : Int32 → SY → Prop) (h : ∀ now, post (lc_lab n i (lc_fk (lc_al b d n) (lc_S w c n) M)) (nI n, w, c, b, d, now, ta)) : wpY_label post (nI n, w, c, b, d, now, ta) (nI i) := by
  unfold wpY_label
  dsimp only
  refine lc_i1 hi (by omega) rfl (br_f (by decide) (ly_first hn0 hn hM h7 hw hc _ (fun now2 => ?_)))
  dsimp only
  rcases lc_fk_s (lc_al b d n) (lc_S w c n) M with ⟨e1, e2⟩ | ⟨k, hk, e1, _, e2, _⟩
  · rw [e1] at h ⊢
    exact br_f (by decide) (h now2)
  · rw [e1] at h ⊢
    refine br_t (nI_pos' (by omega)) (ly_write hn0 hn (by omega) _ (fun now3 hN => ?_))
    dsimp only
    rw [nI_clamp (show i < 2 ^ 31 by omega), hN i (by omega) hi]
    exact ⟨vp_in_nI (by omega) (by decide), h now3⟩
theorem ly_c28 (hn0 : 1 ≤ n) (hn : n ≤ 6) (hM : M = 3 ^ n) (h7 : M ≤ 729) (hw : lc_W w) (hc : lc_W c) (post : SY → Prop) (h : ∀ now ta, lc_ta (lc_al b d n) (lc_S w c n) M ta → post (nI n, w, c, b, d, now, ta)) : ∀ t m now ta, m + t = M → lc_ta (lc_al b d n) (lc_S w c n) m ta → wY_count_28 post (nI M) (t + 1) (nI m) (nI n) w c b d now ta := by
  intro t
  induction t with
  | zero =>
    intro m now ta hm hT
    have e : m = M := by omega
    rw [e] at hT ⊢
    exact br_t (nI_le (by omega) (by omega)) (h now ta hT)
  | succ t ih =>
    intro m now ta hm hT
    have hS := lc_S99 hw hc hn m
    refine br_f (nI_ge (by omega) (by omega)) (ly_write hn0 hn (by omega) _ (fun now2 hN => br_c (fun z => ?_) (fun z => ?_)))
    · refine nm_r (nI_1 m) (ih (m + 1) now2 ta (by omega) (fun s hs => ?_))
      rw [hT s hs]
      unfold lc_T
      rw [lc_cnt_f (lc_nA lc_tp_t (lc_b0.mp z))]
    · refine ly_sum hn hw hc hN _ ?_
      rw [nI_clamp (show lc_S w c n m < 2 ^ 31 by omega)]
      refine ⟨vp_in_nI (by omega) (by decide), vp_in_nI (by omega) (by decide), nm_e (nm_r (nI_1 m) (ih (m + 1) now2 _ (by omega) (fun s hs => ?_)))⟩
      by_cases e : s = lc_S w c n m
      · subst e
        rw [pk_us, hT _ hs, nI_1]
        unfold lc_T
        rw [lc_cnt_t (lc_tp_t.mpr ⟨lc_bt z, rfl⟩)]
      · rw [pk_un e, hT s hs]
        unfold lc_T
        rw [lc_cnt_f (lc_nB lc_tp_t (fun y => e (by omega)))]
theorem ly_c7 (hn0 : 1 ≤ n) (hn : n ≤ 6) (hM : M = 3 ^ n) (h7 : M ≤ 729) (hw : lc_W w) (hc : lc_W c) (post : SY → Prop) (h : ∀ now ta, lc_ta (lc_al b d n) (lc_S w c n) M ta → post (nI n, w, c, b, d, now, ta)) (now : Nat → Int32) : ∀ t s ta, s + t = 100 → (∀ j, j < s → ta j = 0) → wY_count_7 post (nI M) (nI n) (t + 1) (nI s) w c b d now ta := by
  intro t
  induction t with
  | zero =>
    intro s ta hs hz
    exact br_t (nI_le (a := 100) (by omega) (by omega)) ⟨_, ly_c28 hn0 hn hM h7 hw hc post h M 0 now ta (by omega) (fun j hj => hz j (by omega))⟩
  | succ t ih =>
    intro s ta hs hz
    refine br_f (nI_ge (b := 100) (by omega) (by decide)) ⟨vp_in_nI (by omega) (by decide), nm_e (nm_r (nI_1 s) (ih (s + 1) _ (by omega) (fun j hj => ?_)))⟩
    rw [nI_clamp (show s < 2 ^ 31 by omega)]
    by_cases e : j = s
    · rw [e]
      exact pk_us
    · rw [pk_un e]
      exact hz j (by omega)
theorem ly_count (hn0 : 1 ≤ n) (hn : n ≤ 6) (hM : M = 3 ^ n) (h7 : M ≤ 729) (hw : lc_W w) (hc : lc_W c) {now ta : Nat → Int32} (post : SY → Prop) (h : ∀ now ta, lc_ta (lc_al b d n) (lc_S w c n) M ta → post (nI n, w, c, b, d, now, ta)) : wpY_count post (nI n, w, c, b, d, now, ta) := by
  unfold wpY_count
  dsimp only
  refine ly_labellings hn _ ⟨100 + 1, ?_⟩
  rw [← hM]
  exact ly_c7 hn0 hn hM h7 hw hc post h now 100 0 ta (by omega) (fun j hj => absurd hj (Nat.not_lt_zero j))
theorem ly_bc (h7 : M ≤ 729) {now ta : Nat → Int32} (hT : lc_ta (lc_al b d n) (lc_S w c n) M ta) (post : Int32 → SY → Prop) : ∀ t, t ≤ 100 → post (nI (lc_bc (lc_T (lc_al b d n) (lc_S w c n) M) t)) (nI n, w, c, b, d, now, ta) → wY_bestCount_7 post (nI n) w c b d now ta (t + 1) (lc_f t) := by
  intro t
  induction t with
  | zero => exact fun _ h => br_t (by decide) h
  | succ s ih =>
    intro hs h
    have hle : lc_T (lc_al b d n) (lc_S w c n) M (s + 1) ≤ M := lc_cnt_le _ M
    rw [show lc_f (s + 1) = nI s from rfl]
    refine br_f (nI_pos (by omega)) ?_
    rw [nI_clamp (show s < 2 ^ 31 by omega), hT s (by omega)]
    refine ⟨vp_in_nI (by omega) (by decide), ?_⟩
    by_cases e : lc_T (lc_al b d n) (lc_S w c n) M (s + 1) = 0
    · rw [show lc_bc (lc_T (lc_al b d n) (lc_S w c n) M) (s + 1) = lc_bc (lc_T (lc_al b d n) (lc_S w c n) M) s from if_pos e] at h
      exact br_t (nI_le (b := 0) (by omega) (by decide)) (nm_r (lc_f_m1 s) (ih (by omega) h))
    · rw [show lc_bc (lc_T (lc_al b d n) (lc_S w c n) M) (s + 1) = lc_T (lc_al b d n) (lc_S w c n) M (s + 1) from if_neg e] at h
      exact br_f (nI_nle (by omega) (by omega)) ⟨vp_in_nI (by omega) (by decide), h⟩
theorem ly_bestCount (hn0 : 1 ≤ n) (hn : n ≤ 6) (hM : M = 3 ^ n) (h7 : M ≤ 729) (hw : lc_W w) (hc : lc_W c) {now ta : Nat → Int32} (post : Int32 → SY → Prop) (h : ∀ now ta, post (nI (lc_T (lc_al b d n) (lc_S w c n) M (lc_G (lc_al b d n) (lc_S w c n) M 100))) (nI n, w, c, b, d, now, ta)) : wpY_bestCount post (nI n, w, c, b, d, now, ta) := by
  unfold wpY_bestCount
  dsimp only
  refine ly_count hn0 hn hM h7 hw hc _ (fun now2 ta2 hT => ?_)
  refine ⟨100 + 1, ly_bc h7 hT post 100 (by omega) ?_⟩
  rw [lc_bc_G]
  exact h now2 ta2
theorem ly_rk (h7 : M ≤ 729) {now ta : Nat → Int32} (hT : lc_ta (lc_al b d n) (lc_S w c n) M ta) {k : Nat} (hk : k ≤ 7) (post : Int32 → SY → Prop) : ∀ t bf, t ≤ 100 → bf ≤ k → post (lc_e (lc_yr (lc_T (lc_al b d n) (lc_S w c n) M) k t bf)) (nI n, w, c, b, d, now, ta) → wY_ranked_21 post (nI k) (nI n) w c b d now ta (t + 1) (nI bf) (lc_f t) := by
  intro t
  induction t with
  | zero => exact fun bf _ _ h => br_t (by decide) h
  | succ s ih =>
    intro bf hs hb h
    have hle : lc_T (lc_al b d n) (lc_S w c n) M (s + 1) ≤ M := lc_cnt_le _ M
    rw [show lc_f (s + 1) = nI s from rfl]
    refine br_f (nI_pos (by omega)) ?_
    rw [nI_clamp (show s < 2 ^ 31 by omega), hT s (by omega)]
    refine ⟨vp_in_nI (by omega) (by decide), nm_r (nI_add _ _) ?_⟩
    by_cases e : bf + lc_T (lc_al b d n) (lc_S w c n) M (s + 1) ≤ k
    · rw [lc_yr_f e] at h
      exact br_t (nI_le e (by omega)) (nm_r (lc_f_m1 s) (ih _ (by omega) e h))
    · rw [lc_yr_t (by omega)] at h
      exact br_f (nI_ge (by omega) (by omega)) h
theorem ly_ranked (hn0 : 1 ≤ n) (hn : n ≤ 6) (hM : M = 3 ^ n) (h7 : M ≤ 729) (hw : lc_W w) (hc : lc_W c) {k : Nat} (hk : k ≤ 7) {now ta : Nat → Int32} (post : Int32 → SY → Prop) (h : ∀ now ta, post (lc_e (lc_yr (lc_T (lc_al b d n) (lc_S w c n) M) k 100 0)) (nI n, w, c, b, d, now, ta)) : wpY_ranked post (nI n, w, c, b, d, now, ta) (nI k) := by
  refine br_f (nI_pos (by omega)) (br_t (nI_le (b := 7) hk (by decide)) (ly_count hn0 hn hM h7 hw hc _ (fun now2 ta2 hT => ?_)))
  exact ⟨100 + 1, ly_rk h7 hT hk post 100 0 (by omega) (by omega) (h now2 ta2)⟩
theorem ly_bt (hn0 : 1 ≤ n) (hn : n ≤ 6) (hM : M = 3 ^ n) (h7 : M ≤ 729) (hw : lc_W w) (hc : lc_W c) (hi : i < n) (ha : a < 3) {ta : Nat → Int32} (post : Int32 → SY → Prop) (h : ∀ now, post (lc_e (lc_mx (lc_th (lc_al b d n) n i a) (lc_S w c n) M)) (nI n, w, c, b, d, now, ta)) : ∀ t m now, m + t = M → wY_bestThrough_30 post (nI i) (nI a) (nI M) (t + 1) (lc_e (lc_mx (lc_th (lc_al b d n) n i a) (lc_S w c n) m)) (nI m) (nI n) w c b d now ta := by
  intro t
  induction t with
  | zero =>
    intro m now hm
    have e : m = M := by omega
    rw [e]
    exact br_t (nI_le (by omega) (by omega)) (h now)
  | succ t ih =>
    intro m now hm
    have hS := lc_S99 hw hc hn m
    have hd := lc_d3 n m i
    have hG := lc_mx_b (fun L => lc_S99 hw hc hn L) (lc_th (lc_al b d n) n i a) m
    refine br_f (nI_ge (by omega) (by omega)) (ly_write hn0 hn (by omega) _ (fun now2 hN => ?_))
    have q := ih (m + 1) now2 (by omega)
    refine br_c (fun z => ?_) (fun z => ?_)
    · rw [lc_mx_f (lc_nA lc_th_t (lc_b0.mp z))] at q
      exact nm_r (nI_1 m) q
    · rw [nI_clamp (show i < 2 ^ 31 by omega), hN i (by omega) hi]
      refine ⟨vp_in_nI (by omega) (by decide), br_c (fun x => ?_) (fun x => ?_)⟩
      · have x2 : lc_d n m i = a := (nI_eq (by omega) (by omega)).mp x
        refine ly_sum hn hw hc hN _ ?_
        by_cases hg : lc_S w c n m + 1 ≤ lc_mx (lc_th (lc_al b d n) n i a) (lc_S w c n) m
        · rw [lc_mx_g (by omega)] at q
          exact br_t ((lc_e_ge (by omega) (by omega)).mpr hg) (nm_r (nI_1 m) q)
        · rw [lc_mx_t (lc_th_t.mpr ⟨lc_bt z, x2⟩) (by omega)] at q
          exact br_f (fun y => hg ((lc_e_ge (by omega) (by omega)).mp y)) (nm_r (nI_1 m) q)
      · rw [lc_mx_f (lc_nB lc_th_t (fun y => x (by rw [y])))] at q
        exact nm_r (nI_1 m) q
theorem ly_tt (hn0 : 1 ≤ n) (hn : n ≤ 6) (hM : M = 3 ^ n) (h7 : M ≤ 729) {ta : Nat → Int32} (post : Int64 → SY → Prop) (h : ∀ now, post (lc_tot (lc_al b d n) (lc_P w c n) M) (nI n, w, c, b, d, now, ta)) : ∀ t m now, m + t = M → wY_total_10 post (nI M) (t + 1) (lc_tot (lc_al b d n) (lc_P w c n) m) (nI m) (nI n) w c b d now ta := by
  intro t
  induction t with
  | zero =>
    intro m now hm
    have e : m = M := by omega
    rw [e]
    exact br_t (nI_le (by omega) (by omega)) (h now)
  | succ t ih =>
    intro m now hm
    refine br_f (nI_ge (by omega) (by omega)) (ly_write hn0 hn (by omega) _ (fun now2 hN => ?_))
    have q := ih (m + 1) now2 (by omega)
    refine br_c (fun z => ?_) (fun z => ?_)
    · rw [lc_tot_f (lc_b0.mp z)] at q
      exact nm_r (nI_1 m) q
    · rw [lc_tot_t (lc_bt z)] at q
      exact ly_product hn hN _ (nm_e (nm_r (nI_1 m) q))
theorem ly_total (hn0 : 1 ≤ n) (hn : n ≤ 6) (hM : M = 3 ^ n) (h7 : M ≤ 729) {now ta : Nat → Int32} (post : Int64 → SY → Prop) (h : ∀ now, post (lc_tot (lc_al b d n) (lc_P w c n) M) (nI n, w, c, b, d, now, ta)) : wpY_total post (nI n, w, c, b, d, now, ta) := by
  unfold wpY_total
  dsimp only
  refine ly_labellings hn _ ⟨M + 1, ?_⟩
  rw [← hM]
  exact ly_tt hn0 hn hM h7 post h M 0 now (by omega)
theorem ly_tr (hn0 : 1 ≤ n) (hn : n ≤ 6) (hM : M = 3 ^ n) (h7 : M ≤ 729) (hi : i < n) (ha : a < 3) {ta : Nat → Int32} (post : Int64 → SY → Prop) (h : ∀ now, post (lc_tot (lc_th (lc_al b d n) n i a) (lc_P w c n) M) (nI n, w, c, b, d, now, ta)) : ∀ t m now, m + t = M → wY_through_29 post (nI i) (nI a) (nI M) (t + 1) (lc_tot (lc_th (lc_al b d n) n i a) (lc_P w c n) m) (nI m) (nI n) w c b d now ta := by
  intro t
  induction t with
  | zero =>
    intro m now hm
    have e : m = M := by omega
    rw [e]
    exact br_t (nI_le (by omega) (by omega)) (h now)
  | succ t ih =>
    intro m now hm
    have hd := lc_d3 n m i
    refine br_f (nI_ge (by omega) (by omega)) (ly_write hn0 hn (by omega) _ (fun now2 hN => ?_))
    have q := ih (m + 1) now2 (by omega)
    refine br_c (fun z => ?_) (fun z => ?_)
    · rw [lc_tot_f (lc_nA lc_th_t (lc_b0.mp z))] at q
      exact nm_r (nI_1 m) q
    · rw [nI_clamp (show i < 2 ^ 31 by omega), hN i (by omega) hi]
      refine ⟨vp_in_nI (by omega) (by decide), br_c (fun x => ?_) (fun x => ?_)⟩
      · have x2 : lc_d n m i = a := (nI_eq (by omega) (by omega)).mp x
        rw [lc_tot_t (lc_th_t.mpr ⟨lc_bt z, x2⟩)] at q
        exact ly_product hn hN _ (nm_e (nm_r (nI_1 m) q))
      · rw [lc_tot_f (lc_nB lc_th_t (fun y => x (by rw [y])))] at q
        exact nm_r (nI_1 m) q
theorem ly_tc (hn0 : 1 ≤ n) (hn : n ≤ 6) (hM : M = 3 ^ n) (h7 : M ≤ 729) (hi : i < n - 1) (ha : a < 9) {ta : Nat → Int32} (post : Int64 → SY → Prop) (h : ∀ now, post (lc_tot (lc_tc (lc_al b d n) n i a) (lc_P w c n) M) (nI n, w, c, b, d, now, ta)) : ∀ t m now, m + t = M → wY_throughCouple_37 post (nI i) (nI a) (nI M) (t + 1) (lc_tot (lc_tc (lc_al b d n) n i a) (lc_P w c n) m) (nI m) (nI n) w c b d now ta := by
  intro t
  induction t with
  | zero =>
    intro m now hm
    have e : m = M := by omega
    rw [e]
    exact br_t (nI_le (by omega) (by omega)) (h now)
  | succ t ih =>
    intro m now hm
    have hd := lc_q9 n m i
    refine br_f (nI_ge (by omega) (by omega)) (ly_write hn0 hn (by omega) _ (fun now2 hN => ?_))
    have q := ih (m + 1) now2 (by omega)
    refine br_c (fun z => ?_) (fun z => ?_)
    · rw [lc_tot_f (lc_nA lc_tc_t (lc_b0.mp z))] at q
      exact nm_r (nI_1 m) q
    · rw [nI_1 i, nI_clamp (show i < 2 ^ 31 by omega), nI_clamp (show i + 1 < 2 ^ 31 by omega), hN i (by omega) (by omega), hN (i + 1) (by omega) (by omega), lc_qe]
      refine ⟨vp_in_nI (by omega) (by decide), vp_in_nI (by omega) (by decide), br_c (fun x => ?_) (fun x => ?_)⟩
      · have x2 : lc_q n m i = a := (nI_eq (by omega) (by omega)).mp x
        rw [lc_tot_t (lc_tc_t.mpr ⟨lc_bt z, x2⟩)] at q
        exact ly_product hn hN _ (nm_e (nm_r (nI_1 m) q))
      · rw [lc_tot_f (lc_nB lc_tc_t (fun y => x (by rw [y])))] at q
        exact nm_r (nI_1 m) q
end
