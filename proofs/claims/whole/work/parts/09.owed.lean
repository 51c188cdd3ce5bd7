/-! what is owed -/
/-- both sides hold the same four tables; the weights are 0 .. 9; 1 .. 6 positions; what the reference writes down for itself is free -/
def i_Rel (_ : Nat) (u : SX) (v : SY) : Prop := ∃ (n : Nat) (w b c d now ta : Nat → Int32), 1 ≤ n ∧ n ≤ 6 ∧ lc_W w ∧ lc_W c ∧ u = (nI n, nI (3 ^ n), w, b, c, d) ∧ v = (nI n, w, c, b, d, now, ta)
theorem lc_729 {n : Nat} (h : n ≤ 6) : 3 ^ n ≤ 729 := Nat.pow_le_pow_right (n := 3) (by decide) h
theorem i_up {k : Nat} {u : SX} {v : SY} (h : i_Rel k u v) : i_Rel (k + 4) u v := h
theorem i_vc0 (k0 : Int32) : wpX_init (fun u => wpY_init (fun v => i_Rel 1 u v) k0) k0 := by
  by_cases h1 : 1 ≤ k0
  · by_cases h6 : k0 ≤ 6
    · obtain ⟨n, hn, e⟩ := nI_of (x := k0) (Int32.not_lt.mpr (Int32.le_trans (by decide) h1))
      have g1 : 1 ≤ n := by
        rw [e] at h1
        exact (nI_leI (a := 1) (by decide) hn).mp h1
      have g6 : n ≤ 6 := by
        rw [e] at h6
        exact (nI_leI (b := 6) hn (by decide)).mp h6
      refine br_t h1 (br_t h6 (lx_ini _ k0 e g6 (br_t h1 (br_t h6 ⟨_, ly_i79 _ k0 ?_ 18 0 (by omega)⟩))))
      exact ⟨n, lc_one 18, lc_one 0, lc_one 9, lc_one 0, lc_one 0, lc_one 0, g1, g6, lc_one_W 18, lc_one_W 9, rfl, by rw [e]; rfl⟩
    · refine br_t h1 (br_f h6 (lx_ini (n := 6) _ 6 rfl (by decide) (br_t h1 (br_f h6 ⟨_, ly_i79 _ 6 ?_ 18 0 (by omega)⟩))))
      exact ⟨6, lc_one 18, lc_one 0, lc_one 9, lc_one 0, lc_one 0, lc_one 0, by decide, by decide, lc_one_W 18, lc_one_W 9, rfl, rfl⟩
  · refine br_f h1 (lx_ini (n := 1) _ 1 rfl (by decide) (br_f h1 ⟨_, ly_i79 _ 1 ?_ 18 0 (by omega)⟩))
    exact ⟨1, lc_one 18, lc_one 0, lc_one 9, lc_one 0, lc_one 0, lc_one 0, by decide, by decide, lc_one_W 18, lc_one_W 9, rfl, rfl⟩
theorem i_vc_weigh {k : Nat} {u : SX} {v : SY} (I : i_Rel k u v) (hk : k + 4 ≤ 2049) (v1 : Int32) (v2 : Int32) (v3 : Int32) : wpX_weigh (fun r u' => wpY_weigh (fun r' v' => r' = r ∧ i_Rel (k + 4) u' v') v v1 v2 v3) u v1 v2 v3 := by
  obtain ⟨n, w, b, c, d, now, ta, h1, h6, hw, hc, rfl, rfl⟩ := I
  unfold wpX_weigh wpY_weigh
  dsimp only
  rcases lc_io v1 (k := n) (by omega) with ho | ⟨i, hi, rfl⟩
  · exact lx_pos_f ho (br_t rfl (ly_pos_f ho (br_t rfl ⟨rfl, n, w, b, c, d, now, ta, h1, h6, hw, hc, rfl, rfl⟩)))
  · refine lx_pos_t h6 hi (br_f (by decide) ?_)
    rcases lc_io v2 (k := 3) (by decide) with ho | ⟨a, ha, rfl⟩
    · exact lx_lab_f ho (br_t rfl (ly_pos_t h6 hi (br_f (by decide) (ly_lab_f ho (br_t rfl ⟨rfl, n, w, b, c, d, now, ta, h1, h6, hw, hc, rfl, rfl⟩)))))
    · refine lx_lab_t ha (br_f (by decide) ?_)
      rcases lc_io v3 (k := 10) (by decide) with ho | ⟨x, hx, rfl⟩
      · exact lx_wt_f ho (br_t rfl (ly_pos_t h6 hi (br_f (by decide) (ly_lab_t ha (br_f (by decide) (lc_o3 (k := 10) (by decide) ho rfl ⟨rfl, n, w, b, c, d, now, ta, h1, h6, hw, hc, rfl, rfl⟩))))))
      · refine lx_wt_t hx (br_f (by decide) ?_)
        have hin : vp_in (nI (3 * i + a)) 18 := vp_in_nI (by omega) (by decide)
        rw [lc_3]
        refine ⟨hin, nm_e (ly_pos_t h6 hi (br_f (by decide) (ly_lab_t ha (br_f (by decide) (lc_i3 (k := 10) hx (by decide) rfl ⟨hin, nm_e ⟨rfl, n, _, b, c, d, now, ta, h1, h6, lc_W_upd hw _ x (by omega), hc, rfl, rfl⟩⟩)))))⟩
theorem i_vc_weighCouple {k : Nat} {u : SX} {v : SY} (I : i_Rel k u v) (hk : k + 4 ≤ 2049) (v1 : Int32) (v2 : Int32) (v3 : Int32) : wpX_weighCouple (fun r u' => wpY_weighCouple (fun r' v' => r' = r ∧ i_Rel (k + 4) u' v') v v1 v2 v3) u v1 v2 v3 := by
  obtain ⟨n, w, b, c, d, now, ta, h1, h6, hw, hc, rfl, rfl⟩ := I
  unfold wpX_weighCouple wpY_weighCouple
  dsimp only
  rcases lc_io v1 (k := 3) (by omega) with ho | ⟨i, hi, rfl⟩
  · exact lx_lab_f ho (br_t rfl (ly_lab_f ho (br_t rfl ⟨rfl, n, w, b, c, d, now, ta, h1, h6, hw, hc, rfl, rfl⟩)))
  · refine lx_lab_t hi (br_f (by decide) ?_)
    rcases lc_io v2 (k := 3) (by decide) with ho | ⟨a, ha, rfl⟩
    · exact lx_lab_f ho (br_t rfl (ly_lab_t hi (br_f (by decide) (ly_lab_f ho (br_t rfl ⟨rfl, n, w, b, c, d, now, ta, h1, h6, hw, hc, rfl, rfl⟩)))))
    · refine lx_lab_t ha (br_f (by decide) ?_)
      rcases lc_io v3 (k := 10) (by decide) with ho | ⟨x, hx, rfl⟩
      · exact lx_wt_f ho (br_t rfl (ly_lab_t hi (br_f (by decide) (ly_lab_t ha (br_f (by decide) (lc_o3 (k := 10) (by decide) ho rfl ⟨rfl, n, w, b, c, d, now, ta, h1, h6, hw, hc, rfl, rfl⟩))))))
      · refine lx_wt_t hx (br_f (by decide) ?_)
        have hin : vp_in (nI (3 * i + a)) 9 := vp_in_nI (by omega) (by decide)
        rw [lc_3]
        refine ⟨hin, nm_e (ly_lab_t hi (br_f (by decide) (ly_lab_t ha (br_f (by decide) (lc_i3 (k := 10) hx (by decide) rfl ⟨hin, nm_e ⟨rfl, n, w, b, _, d, now, ta, h1, h6, hw, lc_W_upd hc _ x (by omega), rfl, rfl⟩⟩)))))⟩
theorem i_vc_bar {k : Nat} {u : SX} {v : SY} (I : i_Rel k u v) (hk : k + 4 ≤ 2049) (v1 : Int32) (v2 : Int32) (v3 : Int32) : wpX_bar (fun r u' => wpY_bar (fun r' v' => r' = r ∧ i_Rel (k + 4) u' v') v v1 v2 (lw_bz v3)) u v1 v2 (lw_bz v3) := by
  obtain ⟨n, w, b, c, d, now, ta, h1, h6, hw, hc, rfl, rfl⟩ := I
  unfold wpX_bar wpY_bar
  dsimp only
  rcases lc_io v1 (k := n) (by omega) with ho | ⟨i, hi, rfl⟩
  · exact lx_pos_f ho (br_t rfl (ly_pos_f ho (br_t rfl ⟨rfl, n, w, b, c, d, now, ta, h1, h6, hw, hc, rfl, rfl⟩)))
  · refine lx_pos_t h6 hi (br_f (by decide) ?_)
    rcases lc_io v2 (k := 3) (by decide) with ho | ⟨a, ha, rfl⟩
    · exact lx_lab_f ho (br_t rfl (ly_pos_t h6 hi (br_f (by decide) (ly_lab_f ho (br_t rfl ⟨rfl, n, w, b, c, d, now, ta, h1, h6, hw, hc, rfl, rfl⟩)))))
    · refine lx_lab_t ha (br_f (by decide) ?_)
      have hin : vp_in (nI (3 * i + a)) 18 := vp_in_nI (by omega) (by decide)
      rw [lc_3]
      exact ⟨hin, nm_e (ly_pos_t h6 hi (br_f (by decide) (ly_lab_t ha (br_f (by decide) ⟨hin, nm_e ⟨rfl, n, w, _, c, d, now, ta, h1, h6, hw, hc, rfl, rfl⟩⟩))))⟩
theorem i_vc_barCouple {k : Nat} {u : SX} {v : SY} (I : i_Rel k u v) (hk : k + 4 ≤ 2049) (v1 : Int32) (v2 : Int32) (v3 : Int32) : wpX_barCouple (fun r u' => wpY_barCouple (fun r' v' => r' = r ∧ i_Rel (k + 4) u' v') v v1 v2 (lw_bz v3)) u v1 v2 (lw_bz v3) := by
  obtain ⟨n, w, b, c, d, now, ta, h1, h6, hw, hc, rfl, rfl⟩ := I
  unfold wpX_barCouple wpY_barCouple
  dsimp only
  rcases lc_io v1 (k := 3) (by omega) with ho | ⟨i, hi, rfl⟩
  · exact lx_lab_f ho (br_t rfl (ly_lab_f ho (br_t rfl ⟨rfl, n, w, b, c, d, now, ta, h1, h6, hw, hc, rfl, rfl⟩)))
  · refine lx_lab_t hi (br_f (by decide) ?_)
    rcases lc_io v2 (k := 3) (by decide) with ho | ⟨a, ha, rfl⟩
    · exact lx_lab_f ho (br_t rfl (ly_lab_t hi (br_f (by decide) (ly_lab_f ho (br_t rfl ⟨rfl, n, w, b, c, d, now, ta, h1, h6, hw, hc, rfl, rfl⟩)))))
    · refine lx_lab_t ha (br_f (by decide) ?_)
      have hin : vp_in (nI (3 * i + a)) 9 := vp_in_nI (by omega) (by decide)
      rw [lc_3]
      exact ⟨hin, nm_e (ly_lab_t hi (br_f (by decide) (ly_lab_t ha (br_f (by decide) ⟨hin, nm_e ⟨rfl, n, w, b, c, _, now, ta, h1, h6, hw, hc, rfl, rfl⟩⟩))))⟩
theorem i_vc_allowed {k : Nat} {u : SX} {v : SY} (I : i_Rel k u v) (hk : k + 4 ≤ 2049) : wpX_allowed (fun r => wpY_allowed (fun r' v' => r' = r ∧ i_Rel (k + 4) u v') v) u := by
  obtain ⟨n, w, b, c, d, now, ta, h1, h6, hw, hc, rfl, rfl⟩ := I
  exact lx_allowed h1 h6 (lc_729 h6) _ (ly_allowed h1 h6 rfl (lc_729 h6) _ (fun now2 => ⟨rfl, n, w, b, c, d, now2, ta, h1, h6, hw, hc, rfl, rfl⟩))
theorem i_vc_best {k : Nat} {u : SX} {v : SY} (I : i_Rel k u v) (hk : k + 4 ≤ 2049) : wpX_best (fun r => wpY_best (fun r' v' => r' = r ∧ i_Rel (k + 4) u v') v) u := by
  obtain ⟨n, w, b, c, d, now, ta, h1, h6, hw, hc, rfl, rfl⟩ := I
  refine lx_best h1 h6 (lc_729 h6) hw hc _ (ly_best h1 h6 rfl (lc_729 h6) hw hc _ (fun now2 => ⟨?_, n, w, b, c, d, now2, ta, h1, h6, hw, hc, rfl, rfl⟩))
  rw [lc_G_mx (fun L => lc_S99 hw hc h6 L)]
theorem i_vc_label {k : Nat} {u : SX} {v : SY} (I : i_Rel k u v) (hk : k + 4 ≤ 2049) (v1 : Int32) : wpX_label (fun r => wpY_label (fun r' v' => r' = r ∧ i_Rel (k + 4) u v') v v1) u v1 := by
  obtain ⟨n, w, b, c, d, now, ta, h1, h6, hw, hc, rfl, rfl⟩ := I
  rcases lc_io v1 (k := n) (by omega) with ho | ⟨i, hi, rfl⟩
  · unfold wpX_label wpY_label
    dsimp only
    exact lx_pos_f ho (br_t rfl (ly_pos_f ho (br_t rfl ⟨rfl, n, w, b, c, d, now, ta, h1, h6, hw, hc, rfl, rfl⟩)))
  · exact lx_label h1 h6 (lc_729 h6) hw hc hi _ (ly_label h1 h6 rfl (lc_729 h6) hw hc hi _ (fun now2 => ⟨rfl, n, w, b, c, d, now2, ta, h1, h6, hw, hc, rfl, rfl⟩))
theorem i_vc_bestCount {k : Nat} {u : SX} {v : SY} (I : i_Rel k u v) (hk : k + 4 ≤ 2049) : wpX_bestCount (fun r => wpY_bestCount (fun r' v' => r' = r ∧ i_Rel (k + 4) u v') v) u := by
  obtain ⟨n, w, b, c, d, now, ta, h1, h6, hw, hc, rfl, rfl⟩ := I
  exact lx_bestCount h1 h6 (lc_729 h6) hw hc _ (ly_bestCount h1 h6 rfl (lc_729 h6) hw hc _ (fun now2 ta2 => ⟨rfl, n, w, b, c, d, now2, ta2, h1, h6, hw, hc, rfl, rfl⟩))
theorem i_vc_ranked {k : Nat} {u : SX} {v : SY} (I : i_Rel k u v) (hk : k + 4 ≤ 2049) (v1 : Int32) : wpX_ranked (fun r => wpY_ranked (fun r' v' => r' = r ∧ i_Rel (k + 4) u v') v v1) u v1 := by
  obtain ⟨n, w, b, c, d, now, ta, h1, h6, hw, hc, rfl, rfl⟩ := I
  rcases lc_io v1 (k := 8) (by decide) with ho | ⟨i, hi, rfl⟩
  · exact lc_o3 (k := 8) (by decide) ho rfl (lc_o3 (k := 8) (by decide) ho rfl ⟨rfl, n, w, b, c, d, now, ta, h1, h6, hw, hc, rfl, rfl⟩)
  · exact lx_ranked h1 h6 (lc_729 h6) hw hc (by omega) _ (ly_ranked h1 h6 rfl (lc_729 h6) hw hc (by omega) _ (fun now2 ta2 => ⟨rfl, n, w, b, c, d, now2, ta2, h1, h6, hw, hc, rfl, rfl⟩))
theorem i_vc_bestThrough {k : Nat} {u : SX} {v : SY} (I : i_Rel k u v) (hk : k + 4 ≤ 2049) (v1 : Int32) (v2 : Int32) : wpX_bestThrough (fun r => wpY_bestThrough (fun r' v' => r' = r ∧ i_Rel (k + 4) u v') v v1 v2) u v1 v2 := by
  obtain ⟨n, w, b, c, d, now, ta, h1, h6, hw, hc, rfl, rfl⟩ := I
  unfold wpX_bestThrough wpY_bestThrough
  dsimp only
  rcases lc_io v1 (k := n) (by omega) with ho | ⟨i, hi, rfl⟩
  · exact lx_pos_f ho (br_t rfl (ly_pos_f ho (br_t rfl ⟨rfl, n, w, b, c, d, now, ta, h1, h6, hw, hc, rfl, rfl⟩)))
  · refine lx_pos_t h6 hi (br_f (by decide) ?_)
    rcases lc_io v2 (k := 3) (by decide) with ho | ⟨a, ha, rfl⟩
    · exact lx_lab_f ho (br_t rfl (ly_pos_t h6 hi (br_f (by decide) (ly_lab_f ho (br_t rfl ⟨rfl, n, w, b, c, d, now, ta, h1, h6, hw, hc, rfl, rfl⟩)))))
    · refine lx_lab_t ha (br_f (by decide) ⟨_, lx_bt h1 h6 (lc_729 h6) hw hc hi ha _ ?_ (3 ^ n) 0 (by omega) (Nat.zero_le _)⟩)
      exact ly_pos_t h6 hi (br_f (by decide) (ly_lab_t ha (br_f (by decide) (ly_labellings h6 _ ⟨_, ly_bt h1 h6 rfl (lc_729 h6) hw hc hi ha _ (fun now2 => ⟨rfl, n, w, b, c, d, now2, ta, h1, h6, hw, hc, rfl, rfl⟩) (3 ^ n) 0 now (by omega)⟩))))
theorem i_vc_total {k : Nat} {u : SX} {v : SY} (I : i_Rel k u v) (hk : k + 4 ≤ 2049) : wpX_total (fun r => wpY_total (fun r' v' => r' = r ∧ i_Rel (k + 4) u v') v) u := by
  obtain ⟨n, w, b, c, d, now, ta, h1, h6, hw, hc, rfl, rfl⟩ := I
  exact lx_total h1 h6 (lc_729 h6) _ (ly_total h1 h6 rfl (lc_729 h6) _ (fun now2 => ⟨rfl, n, w, b, c, d, now2, ta, h1, h6, hw, hc, rfl, rfl⟩))
theorem i_vc_through {k : Nat} {u : SX} {v : SY} (I : i_Rel k u v) (hk : k + 4 ≤ 2049) (v1 : Int32) (v2 : Int32) : wpX_through (fun r => wpY_through (fun r' v' => r' = r ∧ i_Rel (k + 4) u v') v v1 v2) u v1 v2 := by
  obtain ⟨n, w, b, c, d, now, ta, h1, h6, hw, hc, rfl, rfl⟩ := I
  unfold wpX_through wpY_through
  dsimp only
  rcases lc_io v1 (k := n) (by omega) with ho | ⟨i, hi, rfl⟩
  · exact lx_pos_f ho (br_t rfl (ly_pos_f ho (br_t rfl ⟨rfl, n, w, b, c, d, now, ta, h1, h6, hw, hc, rfl, rfl⟩)))
  · refine lx_pos_t h6 hi (br_f (by decide) ?_)
    rcases lc_io v2 (k := 3) (by decide) with ho | ⟨a, ha, rfl⟩
    · exact lx_lab_f ho (br_t rfl (ly_pos_t h6 hi (br_f (by decide) (ly_lab_f ho (br_t rfl ⟨rfl, n, w, b, c, d, now, ta, h1, h6, hw, hc, rfl, rfl⟩)))))
    · refine lx_lab_t ha (br_f (by decide) ⟨_, lx_tr h1 h6 (lc_729 h6) hi ha _ ?_ (3 ^ n) 0 (by omega)⟩)
      exact ly_pos_t h6 hi (br_f (by decide) (ly_lab_t ha (br_f (by decide) (ly_labellings h6 _ ⟨_, ly_tr h1 h6 rfl (lc_729 h6) hi ha _ (fun now2 => ⟨rfl, n, w, b, c, d, now2, ta, h1, h6, hw, hc, rfl, rfl⟩) (3 ^ n) 0 now (by omega)⟩))))
theorem i_vc_throughCouple {k : Nat} {u : SX} {v : SY} (I : i_Rel k u v) (hk : k + 4 ≤ 2049) (v1 : Int32) (v2 : Int32) : wpX_throughCouple (fun r => wpY_throughCouple (fun r' v' => r' = r ∧ i_Rel (k + 4) u v') v v1 v2) u v1 v2 := by
  obtain ⟨n, w, b, c, d, now, ta, h1, h6, hw, hc, rfl, rfl⟩ := I
  unfold wpX_throughCouple wpY_throughCouple
  dsimp only
  rcases lc_io v1 (k := n - 1) (by omega) with ho | ⟨i, hi, rfl⟩
  · exact lc_o1 ho (lc_n1 h1) (lc_o2 (by omega) ho (lc_n2 h1 h6) ⟨rfl, n, w, b, c, d, now, ta, h1, h6, hw, hc, rfl, rfl⟩)
  · refine lc_i1 hi (by omega) (lc_n1 h1) ?_
    rcases lc_io v2 (k := 9) (by decide) with ho | ⟨a, ha, rfl⟩
    · exact lc_o4 (k := 9) ho rfl (lc_i2 hi (by omega) (lc_n2 h1 h6) (lc_o3 (k := 9) (by decide) ho rfl ⟨rfl, n, w, b, c, d, now, ta, h1, h6, hw, hc, rfl, rfl⟩))
    · refine lc_i4 (k := 9) ha (by decide) rfl ⟨_, lx_tc h1 h6 (lc_729 h6) hi ha _ ?_ (3 ^ n) 0 (by omega)⟩
      exact lc_i2 hi (by omega) (lc_n2 h1 h6) (lc_i3 (k := 9) ha (by decide) rfl (ly_labellings h6 _ ⟨_, ly_tc h1 h6 rfl (lc_729 h6) hi ha _ (fun now2 => ⟨rfl, n, w, b, c, d, now2, ta, h1, h6, hw, hc, rfl, rfl⟩) (3 ^ n) 0 now (by omega)⟩))
