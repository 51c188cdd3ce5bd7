/-! the reference's private methods -/
section
variable {n L : Nat} {w b c d : Nat → Int32}
theorem ly_num (post : Int32 → Prop) (now ta : Nat → Int32) (hn : n ≤ 6) (h : post (nI (3 ^ n))) : ∀ t i, i + t = n → wY_labellings_4 post (nI n) w c b d now ta (t + 1) (nI (3 ^ i)) (nI i) := by
  intro t
  induction t with
  | zero =>
    intro i hi
    have e : i = n := by omega
    rw [e]
    exact br_t (nI_le (by omega) (by omega)) h
  | succ t ih =>
    intro i hi
    exact br_f (nI_ge (by omega) (by omega)) (nm_r ((pk_mul (3 ^ i) 3).trans (congrArg nI (Nat.pow_succ 3 i).symm)) (nm_r (nI_1 i) (ih (i + 1) (by omega))))
theorem ly_labellings {now ta : Nat → Int32} (hn : n ≤ 6) (post : Int32 → Prop) (h : post (nI (3 ^ n))) : wpY_labellings post (nI n, w, c, b, d, now, ta) :=
  ⟨_, ly_num post now ta hn h n 0 (by omega)⟩
/-- what the reference has written down -/
def lc_now (n L : Nat) (now : Nat → Int32) (t : Nat) : Prop := ∀ j, t ≤ j → j < n → now j = nI (lc_d n L j)
/-- what it has found good -/
def lc_gd (b d : Nat → Int32) (n L t : Nat) : Prop := (∀ j, t ≤ j → j < n → b (lc_p n L j) = 0) ∧ (∀ j, t ≤ j → j < n - 1 → d (lc_q n L j) = 0)
theorem lc_nb (g : Bool) : narrow .boolean (.int (lc_b g)) = .int (lc_b g) := by cases g <;> rfl
theorem lc_b_o {g : Bool} {P : Prop} (h : g = true ↔ P) (x : Prop) (hx : x) : g = true ↔ P ∧ x := by
  rw [h]
  exact ⟨fun p => ⟨p, hx⟩, fun p => p.1⟩
theorem lc_b_n {P : Prop} (x : Prop) (hx : ¬ x) : (false = true) ↔ P ∧ x := ⟨fun p => absurd p (by decide), fun p => absurd p.2 hx⟩
theorem ly_53 (hn0 : 1 ≤ n) (hn : n ≤ 6) {s : Nat} (hs : s < n) {now ta : Nat → Int32} (hN : lc_now n L now s) (post : Int32 → SY → Prop) (J : Int32 → Int32 → Int32 → (Nat → Int32) → (Nat → Int32) → (Nat → Int32) → (Nat → Int32) → (Nat → Int32) → (Nat → Int32) → Prop) (x : Int32) (g : Bool) (P : Prop) (hg : g = true ↔ P) (hJ : ∀ g' : Bool, (g' = true ↔ P ∧ (s < n - 1 → d (lc_q n L s) = 0)) → J x (lc_b g') (lc_f s) w c b d now ta) : wY_write_53 post J x (lc_b g) (nI s) (nI n) w c b d now ta := by
  unfold wY_write_53
  rw [lc_n1 hn0]
  by_cases h : s < n - 1
  · refine br_f (nI_ge h (by omega)) ?_
    rw [nI_1, nI_clamp (show s < 2 ^ 31 by omega), nI_clamp (show s + 1 < 2 ^ 31 by omega), hN s (by omega) hs, hN (s + 1) (by omega) (by omega), lc_qe, lc_qc]
    refine ⟨vp_in_nI (by omega) (by decide), vp_in_nI (by omega) (by decide), vp_in_nI (lc_q9 n L s) (by decide), br_c (fun z => nm_r (lc_f_m1 s) (hJ g (lc_b_o hg _ (fun _ => z)))) (fun z => nm_r (lc_f_m1 s) (hJ false (lc_b_n _ (fun y => z (y h)))))⟩
  · exact br_t (nI_le (by omega) (by omega)) (nm_r (lc_f_m1 s) (hJ g (lc_b_o hg _ (fun y => absurd y h))))
theorem lc_gd_s {s : Nat} (hs : s < n) : lc_gd b d n L s ↔ (lc_gd b d n L (s + 1) ∧ b (lc_p n L s) = 0) ∧ (s < n - 1 → d (lc_q n L s) = 0) := by
  unfold lc_gd
  constructor
  · rintro ⟨h1, h2⟩
    exact ⟨⟨⟨fun j hj => h1 j (by omega), fun j hj => h2 j (by omega)⟩, h1 s (by omega) hs⟩, h2 s (by omega)⟩
  · rintro ⟨⟨⟨h1, h2⟩, h3⟩, h4⟩
    refine ⟨fun j hj hjn => ?_, fun j hj hjn => ?_⟩
    · by_cases e : j = s
      · rw [e]; exact h3
      · exact h1 j (by omega) hjn
    · by_cases e : j = s
      · rw [e]; exact h4 (by omega)
      · exact h2 j (by omega) hjn
theorem ly_wr (hn0 : 1 ≤ n) (hn : n ≤ 6) (hL : L < 2 ^ 31) {ta : Nat → Int32} (post : Int32 → SY → Prop) (h : ∀ now, lc_now n L now 0 → post (lc_b (lc_al b d n L)) (nI n, w, c, b, d, now, ta)) : ∀ t now (g : Bool), t ≤ n → lc_now n L now t → (g = true ↔ lc_gd b d n L t) → wY_write_12 post (nI n) (t + 1) (nI (L / 3 ^ (n - t))) (lc_b g) (lc_f t) w c b d now ta := by
  intro t
  induction t with
  | zero =>
    intro now g _ hN hg
    have e : lc_al b d n L = g := by
      rw [Bool.eq_iff_iff, lc_al_t, hg]
      unfold lc_gd
      exact ⟨fun ⟨h1, h2⟩ => ⟨fun j _ => h1 j, fun j _ => h2 j⟩, fun ⟨h1, h2⟩ => ⟨fun j => h1 j (Nat.zero_le j), fun j => h2 j (Nat.zero_le j)⟩⟩
    refine br_t (by decide) ⟨lc_nb g, ?_⟩
    rw [← e]
    exact h now hN
  | succ s ih =>
    intro now g hs hN hg
    have hq : L / 3 ^ (n - (s + 1)) < 2 ^ 31 := Nat.lt_of_le_of_lt (Nat.div_le_self _ _) hL
    have e1 : L / 3 ^ (n - (s + 1)) % 3 = lc_d n L s := by
      unfold lc_d
      rw [show n - (s + 1) = n - 1 - s by omega]
    have e2 : L / 3 ^ (n - (s + 1)) / 3 = L / 3 ^ (n - s) := by
      rw [Nat.div_div_eq_div_mul, ← Nat.pow_succ, show (n - (s + 1)).succ = n - s by omega]
    have hN2 : lc_now n L (upd now s (nI (lc_d n L s))) s := by
      intro j hj hjn
      by_cases e : j = s
      · rw [e]; exact pk_us
      · rw [pk_un e]; exact hN j (by omega) hjn
    rw [show lc_f (s + 1) = nI s from rfl]
    refine br_f (nI_pos (by omega)) ⟨by decide, vp_in_nI (show s < 6 by omega) (by decide), nm_r (e' := upd now s (nI (lc_d n L s))) (by rw [nI_clamp (by omega), lc_rem3 hq, e1]) ⟨by decide, nm_r ((lc_div3 hq).trans (congrArg nI e2)) ?_⟩⟩
    rw [nI_clamp (show s < 2 ^ 31 by omega), pk_us, lc_pe, lc_pc hn (by omega)]
    refine ⟨vp_in_nI (show s < 6 by omega) (by decide), vp_in_nI (lc_p18 hn (by omega)) (by decide), br_c (fun z => ?_) (fun z => ?_)⟩
    · exact ly_53 hn0 hn (by omega) hN2 post _ _ g _ (lc_b_o hg _ z) (fun g' hg' => ih _ g' (by omega) hN2 (hg'.trans (lc_gd_s (by omega)).symm))
    · exact ly_53 hn0 hn (by omega) hN2 post _ _ false _ (lc_b_n (P := lc_gd b d n L (s + 1)) _ z) (fun g' hg' => ih _ g' (by omega) hN2 (hg'.trans (lc_gd_s (by omega)).symm))
theorem ly_write (hn0 : 1 ≤ n) (hn : n ≤ 6) (hL : L < 3 ^ n) {now ta : Nat → Int32} (post : Int32 → SY → Prop) (h : ∀ now, lc_now n L now 0 → post (lc_b (lc_al b d n L)) (nI n, w, c, b, d, now, ta)) : wpY_write post (nI n, w, c, b, d, now, ta) (nI L) := by
  have h3 : 3 ^ n ≤ 3 ^ 6 := Nat.pow_le_pow_right (by decide) hn
  have hL2 : L < 2 ^ 31 := by omega
  refine nm_r (e' := lc_f n) (by rw [Int32.sub_eq_add_neg]; exact lc_f_m1 n) ⟨n + 1, ?_⟩
  have q := ly_wr hn0 hn hL2 post h n now true (by omega) (fun j hj hjn => absurd hjn (by omega)) ⟨fun _ => ⟨fun j hj hjn => absurd hjn (by omega), fun j hj hjn => absurd hjn (by omega)⟩, fun _ => rfl⟩
  rw [Nat.sub_self, Nat.pow_zero, Nat.div_one] at q
  exact q
theorem ly_sm (hn : n ≤ 6) (hw : lc_W w) (hc : lc_W c) {now ta : Nat → Int32} (hN : lc_now n L now 0) (post : Int32 → Prop) (h : post (nI (lc_S w c n L))) : ∀ t i, i + t = n → wY_sum_4 post (nI n) w c b d now ta (t + 1) (nI (lc_sA w n L i + lc_sB c n L (i - 1))) (nI i) := by
  intro t
  induction t with
  | zero =>
    intro i hi
    have e : i = n := by omega
    rw [e]
    exact br_t (nI_le (by omega) (by omega)) h
  | succ t ih =>
    intro i hi
    have q := ih (i + 1) (by omega)
    refine br_f (nI_ge (by omega) (by omega)) ?_
    rw [nI_clamp (show i < 2 ^ 31 by omega), hN i (by omega) (by omega), lc_pe, lc_pc hn (by omega), (lc_w_e hw (lc_p n L i)).1]
    refine ⟨vp_in_nI (show i < 6 by omega) (by decide), vp_in_nI (lc_p18 hn (by omega)) (by decide), ?_⟩
    cases i with
    | zero =>
      refine br_t rfl (nm_r ?_ (nm_r (nI_1 0) q))
      rw [Int32.add_zero, nI_add]
      rfl
    | succ k =>
      refine br_f (nI_ne0 (by omega) (by omega)) ?_
      rw [nI_pred, nI_clamp (show k < 2 ^ 31 by omega), hN k (by omega) (by omega), lc_qe, lc_qc, (lc_w_e hc (lc_q n L k)).1]
      refine ⟨vp_in_nI (show k < 6 by omega) (by decide), vp_in_nI (show k + 1 < 6 by omega) (by decide), vp_in_nI (lc_q9 n L k) (by decide), nm_r ?_ (nm_r (nI_1 (k + 1)) q)⟩
      rw [nI_add, nI_add]
      refine congrArg nI ?_
      show lc_sA w n L (k + 1) + lc_sB c n L k + (lc_w w (lc_p n L (k + 1)) + lc_w c (lc_q n L k)) = (lc_sA w n L (k + 1) + lc_w w (lc_p n L (k + 1))) + (lc_sB c n L k + lc_w c (lc_q n L k))
      omega
theorem ly_sum (hn : n ≤ 6) (hw : lc_W w) (hc : lc_W c) {now ta : Nat → Int32} (hN : lc_now n L now 0) (post : Int32 → Prop) (h : post (nI (lc_S w c n L))) : wpY_sum post (nI n, w, c, b, d, now, ta) :=
  ⟨_, ly_sm hn hw hc hN post h n 0 (by omega)⟩
theorem lc_ring (p q x y : Int64) : p * q * x * y = (p * x) * (q * y) := by grind
theorem ly_pr (hn : n ≤ 6) {now ta : Nat → Int32} (hN : lc_now n L now 0) (post : Int64 → Prop) (h : post (lc_P w c n L)) : ∀ t i, i + t = n → wY_product_4 post (nI n) w c b d now ta (t + 1) (lc_pA w n L i * lc_pB c n L (i - 1)) (nI i) := by
  intro t
  induction t with
  | zero =>
    intro i hi
    have e : i = n := by omega
    rw [e]
    exact br_t (nI_le (by omega) (by omega)) h
  | succ t ih =>
    intro i hi
    have q := ih (i + 1) (by omega)
    refine br_f (nI_ge (by omega) (by omega)) ?_
    rw [nI_clamp (show i < 2 ^ 31 by omega), hN i (by omega) (by omega), lc_pe, lc_pc hn (by omega)]
    refine ⟨vp_in_nI (show i < 6 by omega) (by decide), vp_in_nI (lc_p18 hn (by omega)) (by decide), ?_⟩
    cases i with
    | zero =>
      refine br_t rfl (nm_r ?_ (nm_r (nI_1 0) q))
      exact (lc_ring _ _ _ _).trans rfl
    | succ k =>
      refine br_f (nI_ne0 (by omega) (by omega)) ?_
      rw [nI_pred, nI_clamp (show k < 2 ^ 31 by omega), hN k (by omega) (by omega), lc_qe, lc_qc]
      exact ⟨vp_in_nI (show k < 6 by omega) (by decide), vp_in_nI (show k + 1 < 6 by omega) (by decide), vp_in_nI (lc_q9 n L k) (by decide), nm_r (lc_ring _ _ _ _) (nm_r (nI_1 (k + 1)) q)⟩
theorem ly_product (hn : n ≤ 6) {now ta : Nat → Int32} (hN : lc_now n L now 0) (post : Int64 → Prop) (h : post (lc_P w c n L)) : wpY_product post (nI n, w, c, b, d, now, ta) := by
  refine ⟨n + 1, ?_⟩
  have q := ly_pr (b := b) (d := d) (ta := ta) hn hN post h n 0 (by omega)
  exact q
end
