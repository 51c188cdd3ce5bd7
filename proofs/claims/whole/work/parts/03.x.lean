/-! the component's private methods, each with a general post -/
section
variable {n M L i : Nat} {m : Int32} {w b c d : Nat → Int32}
theorem lc_n1 (h : 1 ≤ n) : nI n - 1 = nI (n - 1) := pk_sub (b := 1) h
theorem lc_div3 (hL : L < 2 ^ 31) : nI L / 3 = nI (L / 3) := pk_div (d := 3) hL (by decide) (by decide)
theorem lc_rem3 (hL : L < 2 ^ 31) : nI L - nI L / 3 * 3 = nI (L % 3) := pk_rem (d := 3) hL (by decide) (by decide)
theorem lc_pe (n L i : Nat) : 3 * nI i + nI (lc_d n L i) = nI (lc_p n L i) := by
  unfold lc_p
  rw [← nI_add, ← pk_mul]
  rfl
theorem lc_qe (n L i : Nat) : 3 * nI (lc_d n L i) + nI (lc_d n L (i + 1)) = nI (lc_q n L i) := by
  unfold lc_q
  rw [← nI_add, ← pk_mul]
  rfl
theorem lc_pc (hn : n ≤ 6) (hi : i < n) : (nI (lc_p n L i)).toNatClampNeg = lc_p n L i := nI_clamp (by have := lc_p18 (L := L) hn hi; omega)
theorem lc_qc (n L i : Nat) : (nI (lc_q n L i)).toNatClampNeg = lc_q n L i := nI_clamp (by have := lc_q9 n L i; omega)
theorem lx_la (post : Int32 → Prop) (hi : i < 100) : ∀ t L : Nat, t < 100 → L < 2 ^ 31 → post (nI (L / 3 ^ t % 3)) → wX_labelAt_10 post (nI i) (nI n) m w b c d (t + 1) (nI L) (nI (i + t)) := by
  intro t
  induction t with
  | zero =>
    intro L _ hL h
    refine br_t (nI_le (by omega) (by omega)) ⟨by decide, ?_⟩
    rw [lc_rem3 hL]
    rw [Nat.pow_zero, Nat.div_one] at h
    exact h
  | succ t ih =>
    intro L ht hL h
    refine br_f (nI_ge (by omega) (by omega)) ⟨by decide, nm_r (lc_div3 hL) (nm_r (pk_m1 (i + t)) (ih (L / 3) (by omega) (by omega) ?_))⟩
    rw [Nat.div_div_eq_div_mul, ← Nat.pow_succ']
    exact h
theorem lx_labelAt (hn : n ≤ 6) (hi : i < n) (hL : L < 2 ^ 31) (post : Int32 → Prop) (h : post (nI (lc_d n L i))) {y : Int32} (hy : y = nI i := by rfl) : wpX_labelAt post (nI n, m, w, b, c, d) (nI L) y := by
  subst hy
  obtain ⟨t, rfl⟩ : ∃ t, n = i + t + 1 := ⟨n - 1 - i, by omega⟩
  unfold lc_d at h
  rw [show i + t + 1 - 1 - i = t by omega] at h
  exact nm_r (lc_n1 (by omega)) ⟨t + 1, lx_la post (by omega) t L (by omega) hL h⟩
theorem lx_coupleAt (hn : n ≤ 6) (hi : i < n - 1) (hL : L < 2 ^ 31) (post : Int32 → Prop) (h : post (nI (lc_q n L i))) : wpX_coupleAt post (nI n, m, w, b, c, d) (nI L) (nI i) := by
  unfold wpX_coupleAt
  dsimp only
  refine lx_labelAt (i := i) hn (by omega) hL _ ?_
  refine lx_labelAt (i := i + 1) hn (by omega) hL _ ?_ (nI_1 i)
  rw [lc_qe]
  exact h
theorem lx_al2 (hn0 : 1 ≤ n) (hn : n ≤ 6) (hL : L < 2 ^ 31) (post : Int32 → Prop) (h : post (lc_b (lc_al b d n L))) (h1 : ∀ j, j < n → b (lc_p n L j) = 0) : ∀ t i, i + t = n - 1 → (∀ j, j < i → d (lc_q n L j) = 0) → wX_isAllowed_38 post (nI L) (nI n) m w b c d (t + 1) (nI i) := by
  intro t
  induction t with
  | zero =>
    intro i hi h2
    have e : lc_al b d n L = true := lc_al_t.mpr ⟨h1, fun j hj => h2 j (by omega)⟩
    rw [e] at h
    exact br_t (by rw [lc_n1 hn0]; exact nI_le (by omega) (by omega)) h
  | succ t ih =>
    intro i hi h2
    refine br_f (by rw [lc_n1 hn0]; exact nI_ge (by omega) (by omega)) (lx_coupleAt hn (by omega) hL _ ?_)
    rw [lc_qc]
    refine ⟨vp_in_nI (lc_q9 n L i) (by decide), br_c (fun z => nm_r (nI_1 i) (ih (i + 1) (by omega) (fun j hj => ?_))) (fun z => ?_)⟩
    · by_cases e : j = i
      · rw [e]
        exact z
      · exact h2 j (by omega)
    · rw [lc_al_f2 (by omega) z] at h
      exact h
theorem lx_al1 (hn0 : 1 ≤ n) (hn : n ≤ 6) (hL : L < 2 ^ 31) (post : Int32 → Prop) (h : post (lc_b (lc_al b d n L))) : ∀ t i, i + t = n → (∀ j, j < i → b (lc_p n L j) = 0) → wX_isAllowed_2 post (nI L) (nI n) m w b c d (t + 1) (nI i) := by
  intro t
  induction t with
  | zero =>
    intro i hi h1
    exact br_t (nI_le (by omega) (by omega)) ⟨_, lx_al2 hn0 hn hL post h (fun j hj => h1 j (by omega)) (n - 1) 0 (by omega) (fun j hj => absurd hj (Nat.not_lt_zero j))⟩
  | succ t ih =>
    intro i hi h1
    refine br_f (nI_ge (by omega) (by omega)) (lx_labelAt (i := i) hn (by omega) hL _ ?_)
    rw [lc_pe, lc_pc hn (by omega)]
    refine ⟨vp_in_nI (lc_p18 hn (by omega)) (by decide), br_c (fun z => nm_r (nI_1 i) (ih (i + 1) (by omega) (fun j hj => ?_))) (fun z => ?_)⟩
    · by_cases e : j = i
      · rw [e]
        exact z
      · exact h1 j (by omega)
    · rw [lc_al_f1 (by omega) z] at h
      exact h
theorem lx_isAllowed (hn0 : 1 ≤ n) (hn : n ≤ 6) (hL : L < 2 ^ 31) (post : Int32 → Prop) (h : post (lc_b (lc_al b d n L))) : wpX_isAllowed post (nI n, m, w, b, c, d) (nI L) :=
  ⟨_, lx_al1 hn0 hn hL post h n 0 (by omega) (fun j hj => absurd hj (Nat.not_lt_zero j))⟩
theorem lx_s2 (hn0 : 1 ≤ n) (hn : n ≤ 6) (hc : lc_W c) (hL : L < 2 ^ 31) (post : Int32 → Prop) (h : post (nI (lc_S w c n L))) : ∀ t i, i + t = n - 1 → wX_sumOf_38 post (nI L) (nI n) m w b c d (t + 1) (nI (lc_sA w n L n + lc_sB c n L i)) (nI i) := by
  intro t
  induction t with
  | zero =>
    intro i hi
    have e : i = n - 1 := by omega
    rw [e]
    exact br_t (by rw [lc_n1 hn0]; exact nI_le (by omega) (by omega)) h
  | succ t ih =>
    intro i hi
    refine br_f (by rw [lc_n1 hn0]; exact nI_ge (by omega) (by omega)) (lx_coupleAt hn (by omega) hL _ ?_)
    rw [lc_qc, (lc_w_e hc (lc_q n L i)).1]
    refine ⟨vp_in_nI (lc_q9 n L i) (by decide), nm_r ?_ (nm_r (nI_1 i) (ih (i + 1) (by omega)))⟩
    rw [nI_add, Nat.add_assoc]
    rfl
theorem lx_s1 (hn0 : 1 ≤ n) (hn : n ≤ 6) (hw : lc_W w) (hc : lc_W c) (hL : L < 2 ^ 31) (post : Int32 → Prop) (h : post (nI (lc_S w c n L))) : ∀ t i, i + t = n → wX_sumOf_4 post (nI L) (nI n) m w b c d (t + 1) (nI (lc_sA w n L i)) (nI i) := by
  intro t
  induction t with
  | zero =>
    intro i hi
    have e : i = n := by omega
    rw [e]
    exact br_t (nI_le (by omega) (by omega)) ⟨_, lx_s2 hn0 hn hc hL post h (n - 1) 0 (by omega)⟩
  | succ t ih =>
    intro i hi
    refine br_f (nI_ge (by omega) (by omega)) (lx_labelAt (i := i) hn (by omega) hL _ ?_)
    rw [lc_pe, lc_pc hn (by omega), (lc_w_e hw (lc_p n L i)).1]
    exact ⟨vp_in_nI (lc_p18 hn (by omega)) (by decide), nm_r (nI_add _ _) (nm_r (nI_1 i) (ih (i + 1) (by omega)))⟩
theorem lx_sumOf (hn0 : 1 ≤ n) (hn : n ≤ 6) (hw : lc_W w) (hc : lc_W c) (hL : L < 2 ^ 31) (post : Int32 → Prop) (h : post (nI (lc_S w c n L))) : wpX_sumOf post (nI n, m, w, b, c, d) (nI L) :=
  ⟨_, lx_s1 hn0 hn hw hc hL post h n 0 (by omega)⟩
theorem lx_p2 (hn0 : 1 ≤ n) (hn : n ≤ 6) (hL : L < 2 ^ 31) (post : Int64 → Prop) (h : post (lc_P w c n L)) : ∀ t i, i + t = n - 1 → wX_productOf_44 post (nI L) (nI n) m w b c d (t + 1) (lc_pA w n L n * lc_pB c n L i) (nI i) := by
  intro t
  induction t with
  | zero =>
    intro i hi
    have e : i = n - 1 := by omega
    rw [e]
    exact br_t (by rw [lc_n1 hn0]; exact nI_le (by omega) (by omega)) h
  | succ t ih =>
    intro i hi
    refine br_f (by rw [lc_n1 hn0]; exact nI_ge (by omega) (by omega)) (lx_coupleAt hn (by omega) hL _ ?_)
    rw [lc_qc]
    exact ⟨vp_in_nI (lc_q9 n L i) (by decide), nm_r (Int64.mul_assoc _ _ _) (nm_r (nI_1 i) (ih (i + 1) (by omega)))⟩
theorem lx_p1 (hn0 : 1 ≤ n) (hn : n ≤ 6) (hL : L < 2 ^ 31) (post : Int64 → Prop) (h : post (lc_P w c n L)) : ∀ t i, i + t = n → wX_productOf_5 post (nI L) (nI n) m w b c d (t + 1) (lc_pA w n L i) (nI i) := by
  intro t
  induction t with
  | zero =>
    intro i hi
    have e : i = n := by omega
    rw [e]
    refine br_t (nI_le (by omega) (by omega)) ⟨n - 1 + 1, ?_⟩
    have q := lx_p2 (m := m) (b := b) (d := d) hn0 hn hL post h (n - 1) 0 (by omega)
    rw [show lc_pB c n L 0 = 1 from rfl, Int64.mul_one] at q
    exact q
  | succ t ih =>
    intro i hi
    refine br_f (nI_ge (by omega) (by omega)) (lx_labelAt (i := i) hn (by omega) hL _ ?_)
    rw [lc_pe, lc_pc hn (by omega)]
    exact ⟨vp_in_nI (lc_p18 hn (by omega)) (by decide), nm_e (nm_r (nI_1 i) (ih (i + 1) (by omega)))⟩
theorem lx_productOf (hn0 : 1 ≤ n) (hn : n ≤ 6) (hL : L < 2 ^ 31) (post : Int64 → Prop) (h : post (lc_P w c n L)) : wpX_productOf post (nI n, m, w, b, c, d) (nI L) :=
  ⟨_, lx_p1 hn0 hn hL post h n 0 (by omega)⟩
theorem lx_num (post : Int32 → Prop) (hn : n ≤ 6) (h : post (nI (3 ^ n))) : ∀ t i, i + t = n → wX_numberOfLabellings_4 post (nI n) (t + 1) (nI (3 ^ i)) (nI i) := by
  intro t
  induction t with
  | zero =>
    intro i hi
    have e : i = n := by omega
    rw [e]
    exact br_t (nI_le (by omega) (by omega)) h
  | succ t ih =>
    intro i hi
    exact br_f (nI_ge (by omega) (by omega)) (nm_r ((pk_mul (3 ^ i) 3).trans (congrArg nI (Nat.pow_succ 3 i).symm)) (nm_r (nI_1 i) (ih (i + 1) (by omega))))
theorem lx_numberOf (post : Int32 → Prop) (hn : n ≤ 6) (h : post (nI (3 ^ n))) : wpX_numberOfLabellings post (nI n) :=
  ⟨_, lx_num post hn h n 0 (by omega)⟩
end
