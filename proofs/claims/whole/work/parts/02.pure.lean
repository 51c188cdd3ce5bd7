/-! the pure picture: labels, sums, products, allowed labellings, folds over the labellings -/
/-- the label at position i of the labelling L of n positions -/
def lc_d (n L i : Nat) : Nat := L / 3 ^ (n - 1 - i) % 3
theorem lc_d3 (n L i : Nat) : lc_d n L i < 3 := Nat.mod_lt _ (by decide)
/-- the place of position i's label, of the couple at i -/
def lc_p (n L i : Nat) : Nat := 3 * i + lc_d n L i
def lc_q (n L i : Nat) : Nat := 3 * lc_d n L i + lc_d n L (i + 1)
theorem lc_p18 {n L i : Nat} (hn : n ≤ 6) (hi : i < n) : lc_p n L i < 18 := by
  have := lc_d3 n L i
  unfold lc_p
  omega
theorem lc_q9 (n L i : Nat) : lc_q n L i < 9 := by
  have := lc_d3 n L i
  have := lc_d3 n L (i + 1)
  unfold lc_q
  omega
/-- a table of weights -/
def lc_W (w : Nat → Int32) : Prop := ∀ j, ∃ x, x ≤ 9 ∧ w j = nI x
def lc_w (w : Nat → Int32) (j : Nat) : Nat := (w j).toNatClampNeg
theorem lc_w_e {w : Nat → Int32} (h : lc_W w) (j : Nat) : w j = nI (lc_w w j) ∧ lc_w w j ≤ 9 := by
  obtain ⟨x, hx, e⟩ := h j
  have : lc_w w j = x := by unfold lc_w; rw [e]; exact nI_clamp (by omega)
  rw [this]
  exact ⟨e, hx⟩
theorem lc_W_upd {w : Nat → Int32} (h : lc_W w) (k x : Nat) (hx : x ≤ 9) : lc_W (upd w k (nI x)) := by
  intro j
  by_cases e : j = k
  · subst e
    exact ⟨x, hx, pk_us⟩
  · obtain ⟨y, hy, ey⟩ := h j
    exact ⟨y, hy, (pk_un e).trans ey⟩
/-- a table of bars -/
def lc_B (b : Nat → Int32) : Prop := ∀ j, b j = 0 ∨ b j = 1
theorem lc_B_upd {b : Nat → Int32} (h : lc_B b) (k : Nat) {x : Int32} (hx : x = 0 ∨ x = 1) : lc_B (upd b k x) := by
  intro j
  by_cases e : j = k
  · subst e
    rw [pk_us]
    exact hx
  · rw [pk_un e]
    exact h j
/-- sums and products along the labelling -/
def lc_sA (w : Nat → Int32) (n L : Nat) : Nat → Nat
  | 0 => 0
  | i + 1 => lc_sA w n L i + lc_w w (lc_p n L i)
def lc_sB (c : Nat → Int32) (n L : Nat) : Nat → Nat
  | 0 => 0
  | i + 1 => lc_sB c n L i + lc_w c (lc_q n L i)
def lc_S (w c : Nat → Int32) (n L : Nat) : Nat := lc_sA w n L n + lc_sB c n L (n - 1)
theorem lc_sA_le {w : Nat → Int32} (h : lc_W w) (n L : Nat) : ∀ i, lc_sA w n L i ≤ 9 * i := by
  intro i
  induction i with
  | zero => exact Nat.le_refl 0
  | succ i ih =>
    have := (lc_w_e h (lc_p n L i)).2
    show lc_sA w n L i + lc_w w (lc_p n L i) ≤ _
    omega
theorem lc_sB_le {c : Nat → Int32} (h : lc_W c) (n L : Nat) : ∀ i, lc_sB c n L i ≤ 9 * i := by
  intro i
  induction i with
  | zero => exact Nat.le_refl 0
  | succ i ih =>
    have := (lc_w_e h (lc_q n L i)).2
    show lc_sB c n L i + lc_w c (lc_q n L i) ≤ _
    omega
theorem lc_S99 {w c : Nat → Int32} (hw : lc_W w) (hc : lc_W c) {n : Nat} (hn : n ≤ 6) (L : Nat) : lc_S w c n L ≤ 99 := by
  have := lc_sA_le hw n L n
  have := lc_sB_le hc n L (n - 1)
  unfold lc_S
  omega
def lc_pA (w : Nat → Int32) (n L : Nat) : Nat → Int64
  | 0 => 1
  | i + 1 => lc_pA w n L i * (w (lc_p n L i)).toInt64
def lc_pB (c : Nat → Int32) (n L : Nat) : Nat → Int64
  | 0 => 1
  | i + 1 => lc_pB c n L i * (c (lc_q n L i)).toInt64
def lc_P (w c : Nat → Int32) (n L : Nat) : Int64 := lc_pA w n L n * lc_pB c n L (n - 1)
/-- allowed -/
def lc_a1 (b : Nat → Int32) (n L i : Nat) : Bool := decide (b (lc_p n L i) = 0)
def lc_a2 (b : Nat → Int32) (n L i : Nat) : Bool := decide (b (lc_q n L i) = 0)
def lc_al (b d : Nat → Int32) (n L : Nat) : Bool := (List.range n).all (lc_a1 b n L) && (List.range (n - 1)).all (lc_a2 d n L)
theorem lc_al_t {b d : Nat → Int32} {n L : Nat} : lc_al b d n L = true ↔ (∀ i, i < n → b (lc_p n L i) = 0) ∧ (∀ i, i < n - 1 → d (lc_q n L i) = 0) := by
  unfold lc_al
  rw [Bool.and_eq_true, List.all_eq_true, List.all_eq_true]
  constructor
  · rintro ⟨h1, h2⟩
    exact ⟨fun i hi => of_decide_eq_true (h1 i (List.mem_range.mpr hi)), fun i hi => of_decide_eq_true (h2 i (List.mem_range.mpr hi))⟩
  · rintro ⟨h1, h2⟩
    exact ⟨fun i hi => decide_eq_true (h1 i (List.mem_range.mp hi)), fun i hi => decide_eq_true (h2 i (List.mem_range.mp hi))⟩
theorem lc_al_f1 {b d : Nat → Int32} {n L i : Nat} (hi : i < n) (h : ¬ b (lc_p n L i) = 0) : lc_al b d n L = false := by
  cases e : lc_al b d n L with
  | false => rfl
  | true => exact absurd ((lc_al_t.mp e).1 i hi) h
theorem lc_al_f2 {b d : Nat → Int32} {n L i : Nat} (hi : i < n - 1) (h : ¬ d (lc_q n L i) = 0) : lc_al b d n L = false := by
  cases e : lc_al b d n L with
  | false => rfl
  | true => exact absurd ((lc_al_t.mp e).2 i hi) h
/-- a boolean as an int -/
def lc_b : Bool → Int32
  | false => 0
  | true => 1
theorem lc_b0 {x : Bool} : lc_b x = 0 ↔ x = false := by cases x <;> decide
theorem lc_b01 (x : Bool) : lc_b x = 0 ∨ lc_b x = 1 := by cases x <;> decide
/-- a greatest sum, coded: 0 for none, s + 1 for the sum s -/
def lc_e : Nat → Int32
  | 0 => -2
  | c + 1 => nI c
theorem lc_e_i {c : Nat} (h : c < 2 ^ 31) : (lc_e c).toInt = if c = 0 then -2 else (c : Int) - 1 := by
  cases c with
  | zero => decide
  | succ c =>
    show (nI c).toInt = _
    rw [nI_toInt (by omega), if_neg (by omega)]
    omega
theorem lc_e_ge {s c : Nat} (hs : s < 2 ^ 31) (hc : c < 2 ^ 31) : nI s ≤ lc_e c ↔ s + 1 ≤ c := by
  rw [Int32.le_iff_toInt_le, nI_toInt hs, lc_e_i hc]
  split <;> omega
theorem lc_e_eq {s c : Nat} (hs : s < 2 ^ 31) (hc : c < 2 ^ 31) : nI s = lc_e c ↔ s + 1 = c := by
  rw [← Int32.toInt_inj, nI_toInt hs, lc_e_i hc]
  split <;> omega
theorem lc_e_n {c : Nat} (hc : c < 2 ^ 31) : lc_e c = -2 ↔ c = 0 := by
  rw [← Int32.toInt_inj, lc_e_i hc, show (-2 : Int32).toInt = -2 from by decide]
  split <;> omega
/-- folds over the labellings below m -/
def lc_cnt (p : Nat → Bool) : Nat → Nat
  | 0 => 0
  | m + 1 => if p m = true then lc_cnt p m + 1 else lc_cnt p m
theorem lc_cnt_t {p : Nat → Bool} {m : Nat} (h : p m = true) : lc_cnt p (m + 1) = lc_cnt p m + 1 := if_pos h
theorem lc_cnt_f {p : Nat → Bool} {m : Nat} (h : p m = false) : lc_cnt p (m + 1) = lc_cnt p m := if_neg (by rw [h]; decide)
theorem lc_cnt_le (p : Nat → Bool) : ∀ m, lc_cnt p m ≤ m := by
  intro m
  induction m with
  | zero => exact Nat.le_refl 0
  | succ m ih =>
    cases h : p m with
    | false => rw [lc_cnt_f h]; omega
    | true => rw [lc_cnt_t h]; omega
theorem lc_cnt_0 {p : Nat → Bool} : ∀ {m : Nat}, (∀ L, L < m → p L = false) → lc_cnt p m = 0 := by
  intro m
  induction m with
  | zero => exact fun _ => rfl
  | succ m ih =>
    intro h
    rw [lc_cnt_f (h m (by omega))]
    exact ih (fun L hL => h L (by omega))
theorem lc_cnt_pos {p : Nat → Bool} {L : Nat} (hp : p L = true) : ∀ {m : Nat}, L < m → 0 < lc_cnt p m := by
  intro m
  induction m with
  | zero => exact fun h => absurd h (Nat.not_lt_zero _)
  | succ m ih =>
    intro h
    by_cases e : L = m
    · subst e
      rw [lc_cnt_t hp]
      omega
    · have := ih (by omega)
      cases h : p m with
      | false => rw [lc_cnt_f h]; omega
      | true => rw [lc_cnt_t h]; omega
def lc_tot (p : Nat → Bool) (P : Nat → Int64) : Nat → Int64
  | 0 => 0
  | m + 1 => if p m = true then lc_tot p P m + P m else lc_tot p P m
theorem lc_tot_t {p : Nat → Bool} {P : Nat → Int64} {m : Nat} (h : p m = true) : lc_tot p P (m + 1) = lc_tot p P m + P m := if_pos h
theorem lc_tot_f {p : Nat → Bool} {P : Nat → Int64} {m : Nat} (h : p m = false) : lc_tot p P (m + 1) = lc_tot p P m := if_neg (by rw [h]; decide)
def lc_mx (p : Nat → Bool) (S : Nat → Nat) : Nat → Nat
  | 0 => 0
  | m + 1 => if p m = true ∧ lc_mx p S m ≤ S m then S m + 1 else lc_mx p S m
theorem lc_mx_t {p : Nat → Bool} {S : Nat → Nat} {m : Nat} (h : p m = true) (h2 : lc_mx p S m ≤ S m) : lc_mx p S (m + 1) = S m + 1 := if_pos ⟨h, h2⟩
theorem lc_mx_f {p : Nat → Bool} {S : Nat → Nat} {m : Nat} (h : p m = false) : lc_mx p S (m + 1) = lc_mx p S m := if_neg (fun z => by rw [h] at z; exact absurd z.1 (by decide))
theorem lc_mx_g {p : Nat → Bool} {S : Nat → Nat} {m : Nat} (h : S m < lc_mx p S m) : lc_mx p S (m + 1) = lc_mx p S m := if_neg (fun z => by have := z.2; omega)
theorem lc_mx_c (p : Nat → Bool) (S : Nat → Nat) (m : Nat) : (p m = true ∧ lc_mx p S m ≤ S m ∧ lc_mx p S (m + 1) = S m + 1) ∨ ((p m = false ∨ S m < lc_mx p S m) ∧ lc_mx p S (m + 1) = lc_mx p S m) := by
  cases h : p m with
  | false => exact Or.inr ⟨Or.inl rfl, lc_mx_f h⟩
  | true =>
    by_cases h2 : lc_mx p S m ≤ S m
    · exact Or.inl ⟨rfl, h2, lc_mx_t h h2⟩
    · exact Or.inr ⟨Or.inr (by omega), lc_mx_g (by omega)⟩
theorem lc_mx_ub {p : Nat → Bool} {S : Nat → Nat} : ∀ {m L : Nat}, L < m → p L = true → S L + 1 ≤ lc_mx p S m := by
  intro m
  induction m with
  | zero => exact fun h => absurd h (Nat.not_lt_zero _)
  | succ m ih =>
    intro L hL hp
    by_cases e : L = m
    · subst e
      rcases lc_mx_c p S L with ⟨_, h2, h3⟩ | ⟨h2 | h2, h3⟩
      · omega
      · rw [h2] at hp
        exact absurd hp (by decide)
      · omega
    · have h := ih (L := L) (by omega) hp
      rcases lc_mx_c p S m with ⟨_, h2, h3⟩ | ⟨_, h3⟩ <;> omega
theorem lc_mx_at (p : Nat → Bool) (S : Nat → Nat) : ∀ m, lc_mx p S m = 0 ∨ ∃ L, L < m ∧ p L = true ∧ S L + 1 = lc_mx p S m := by
  intro m
  induction m with
  | zero => exact Or.inl rfl
  | succ m ih =>
    rcases lc_mx_c p S m with ⟨h1, h2, h3⟩ | ⟨_, h3⟩
    · exact Or.inr ⟨m, by omega, h1, h3.symm⟩
    · rw [h3]
      rcases ih with h | ⟨L, hL, h⟩
      · exact Or.inl h
      · exact Or.inr ⟨L, by omega, h⟩
/-- how many labellings have the sum coded c; the greatest sum below lim, coded -/
def lc_tp (al : Nat → Bool) (S : Nat → Nat) (c : Nat) (L : Nat) : Bool := al L && decide (S L + 1 = c)
def lc_gp (al : Nat → Bool) (S : Nat → Nat) (lim : Nat) (L : Nat) : Bool := al L && decide (S L < lim)
theorem lc_tp_t {al : Nat → Bool} {S : Nat → Nat} {c L : Nat} : lc_tp al S c L = true ↔ al L = true ∧ S L + 1 = c := by
  unfold lc_tp
  rw [Bool.and_eq_true, decide_eq_true_eq]
theorem lc_gp_t {al : Nat → Bool} {S : Nat → Nat} {c L : Nat} : lc_gp al S c L = true ↔ al L = true ∧ S L < c := by
  unfold lc_gp
  rw [Bool.and_eq_true, decide_eq_true_eq]
theorem lc_nt {x : Bool} (h : ¬ x = true) : x = false := by cases x <;> trivial
def lc_T (al : Nat → Bool) (S : Nat → Nat) (M c : Nat) : Nat := lc_cnt (lc_tp al S c) M
def lc_G (al : Nat → Bool) (S : Nat → Nat) (M lim : Nat) : Nat := lc_mx (lc_gp al S lim) S M
theorem lc_G_le (al : Nat → Bool) (S : Nat → Nat) (M lim : Nat) : lc_G al S M lim ≤ lim := by
  rcases lc_mx_at (lc_gp al S lim) S M with h | ⟨L, _, h, e⟩
  · unfold lc_G
    omega
  · have := (lc_gp_t.mp h).2
    unfold lc_G
    omega
theorem lc_T_0 {al : Nat → Bool} {S : Nat → Nat} {M lim c : Nat} (h1 : lc_G al S M lim < c) (h2 : c ≤ lim) : lc_T al S M c = 0 := by
  apply lc_cnt_0
  intro L hL
  apply lc_nt
  intro h
  have ⟨a, e⟩ := lc_tp_t.mp h
  have := lc_mx_ub (S := S) hL (lc_gp_t.mpr ⟨a, (show S L < lim by omega)⟩)
  unfold lc_G at h1
  omega
theorem lc_T_G (al : Nat → Bool) (S : Nat → Nat) (M lim : Nat) : lc_G al S M lim = 0 ∨ 0 < lc_T al S M (lc_G al S M lim) := by
  rcases lc_mx_at (lc_gp al S lim) S M with h | ⟨L, hL, h, e⟩
  · exact Or.inl h
  · exact Or.inr (lc_cnt_pos (lc_tp_t.mpr ⟨(lc_gp_t.mp h).1, e⟩) hL)
theorem lc_T_z (al : Nat → Bool) (S : Nat → Nat) (M : Nat) : lc_T al S M 0 = 0 := by
  apply lc_cnt_0
  intro L _
  apply lc_nt
  intro h
  have := (lc_tp_t.mp h).2
  omega
/-- the reference's way down the tally: the answer, coded, from the sums coded c and below, b passed -/
def lc_yr (T : Nat → Nat) (k : Nat) : Nat → Nat → Nat
  | 0, _ => 0
  | c + 1, b => if k < b + T (c + 1) then c + 1 else lc_yr T k c (b + T (c + 1))
theorem lc_yr_t {T : Nat → Nat} {k c b : Nat} (h : k < b + T (c + 1)) : lc_yr T k (c + 1) b = c + 1 := if_pos h
theorem lc_yr_f {T : Nat → Nat} {k c b : Nat} (h : b + T (c + 1) ≤ k) : lc_yr T k (c + 1) b = lc_yr T k c (b + T (c + 1)) := if_neg (by omega)
theorem lc_yr_s {T : Nat → Nat} {k b : Nat} (hb : b ≤ k) : ∀ d c, (∀ x, c < x → x ≤ c + d → T x = 0) → lc_yr T k (c + d) b = lc_yr T k c b := by
  intro d
  induction d with
  | zero => exact fun _ _ => rfl
  | succ d ih =>
    intro c h
    have h0 := h (c + d + 1) (by omega) (by omega)
    show lc_yr T k (c + d + 1) b = _
    rw [lc_yr_f (by omega), h0]
    exact ih c (fun x h1 h2 => h x h1 (by omega))
theorem lc_yr_G {al : Nat → Bool} {S : Nat → Nat} {M k b : Nat} (hb : b ≤ k) (lim : Nat) : lc_yr (lc_T al S M) k lim b = lc_yr (lc_T al S M) k (lc_G al S M lim) b := by
  have h := lc_G_le al S M lim
  have e := lc_yr_s (T := lc_T al S M) hb (lim - lc_G al S M lim) (lc_G al S M lim) (fun x h1 h2 => lc_T_0 h1 (by omega))
  rw [show lc_G al S M lim + (lim - lc_G al S M lim) = lim by omega] at e
  exact e
theorem lc_bt {x : Bool} (h : ¬ lc_b x = 0) : x = true := by cases x with
  | false => exact absurd rfl h
  | true => rfl
/-- -1 for 0, s for s + 1 -/
def lc_f : Nat → Int32
  | 0 => -1
  | c + 1 => nI c
theorem lc_f_i {c : Nat} (h : c < 2 ^ 31) : (lc_f c).toInt = (c : Int) - 1 := by
  cases c with
  | zero => decide
  | succ c =>
    show (nI c).toInt = _
    rw [nI_toInt (by omega)]
    omega
theorem lc_f_m1 (s : Nat) : nI s + (-1) = lc_f s := by
  cases s with
  | zero => decide
  | succ s => exact pk_m1 s
theorem lc_f_ge {s c : Nat} (hs : s < 2 ^ 31) (hc : c < 2 ^ 31) : nI s ≤ lc_f c ↔ s + 1 ≤ c := by
  rw [Int32.le_iff_toInt_le, nI_toInt hs, lc_f_i hc]
  omega
theorem lc_f_lt {c : Nat} (hc : c < 2 ^ 31) (x : Int32) : lc_f c < x ↔ nI c ≤ x := by
  rw [Int32.lt_iff_toInt_lt, Int32.le_iff_toInt_le, nI_toInt hc, lc_f_i hc]
  omega
/-- the first labelling of the greatest sum, coded -/
def lc_fk (A : Nat → Bool) (S : Nat → Nat) : Nat → Nat
  | 0 => 0
  | m + 1 => if A m = true ∧ lc_mx A S m ≤ S m then m + 1 else lc_fk A S m
theorem lc_fk_t {p : Nat → Bool} {S : Nat → Nat} {m : Nat} (h : p m = true) (h2 : lc_mx p S m ≤ S m) : lc_fk p S (m + 1) = m + 1 := if_pos ⟨h, h2⟩
theorem lc_fk_f {p : Nat → Bool} {S : Nat → Nat} {m : Nat} (h : p m = false) : lc_fk p S (m + 1) = lc_fk p S m := if_neg (fun z => by rw [h] at z; exact absurd z.1 (by decide))
theorem lc_fk_g {p : Nat → Bool} {S : Nat → Nat} {m : Nat} (h : S m < lc_mx p S m) : lc_fk p S (m + 1) = lc_fk p S m := if_neg (fun z => by have := z.2; omega)
theorem lc_fk_s (A : Nat → Bool) (S : Nat → Nat) : ∀ m, (lc_fk A S m = 0 ∧ lc_mx A S m = 0) ∨ ∃ k, k < m ∧ lc_fk A S m = k + 1 ∧ A k = true ∧ lc_mx A S m = S k + 1 ∧ ∀ L, L < k → A L = true → S L < S k := by
  intro m
  induction m with
  | zero => exact Or.inl ⟨rfl, rfl⟩
  | succ m ih =>
    rcases lc_mx_c A S m with ⟨h1, h2, h3⟩ | ⟨h2, h3⟩
    · refine Or.inr ⟨m, by omega, lc_fk_t h1 h2, h1, h3, fun L hL hA => ?_⟩
      have := lc_mx_ub (S := S) hL hA
      omega
    · have e : lc_fk A S (m + 1) = lc_fk A S m := by
        rcases h2 with h2 | h2
        · exact lc_fk_f h2
        · exact lc_fk_g h2
      rw [e, h3]
      rcases ih with h | ⟨k, hk, h⟩
      · exact Or.inl h
      · exact Or.inr ⟨k, by omega, h⟩
theorem lc_mx_0 {A : Nat → Bool} {S : Nat → Nat} {m : Nat} (h : lc_mx A S m = 0) : ∀ L, L < m → A L = false := by
  intro L hL
  apply lc_nt
  intro hA
  have := lc_mx_ub (S := S) hL hA
  omega
theorem lc_G_mx {A : Nat → Bool} {S : Nat → Nat} (h : ∀ L, S L ≤ 99) (M : Nat) : lc_G A S M 100 = lc_mx A S M := by
  have e : lc_gp A S 100 = A := by
    funext L
    unfold lc_gp
    rw [decide_eq_true (show S L < 100 by have := h L; omega), Bool.and_true]
  unfold lc_G
  rw [e]
/-- the reference's best count: the first tally above 0 -/
def lc_bc (T : Nat → Nat) : Nat → Nat
  | 0 => 0
  | t + 1 => if T (t + 1) = 0 then lc_bc T t else T (t + 1)
theorem lc_bc_s {T : Nat → Nat} : ∀ d c, (∀ x, c < x → x ≤ c + d → T x = 0) → lc_bc T (c + d) = lc_bc T c := by
  intro d
  induction d with
  | zero => exact fun _ _ => rfl
  | succ d ih =>
    intro c h
    have h0 := h (c + d + 1) (by omega) (by omega)
    exact (if_pos h0).trans (ih c (fun x h1 h2 => h x h1 (by omega)))
theorem lc_bc_G (al : Nat → Bool) (S : Nat → Nat) (M lim : Nat) : lc_bc (lc_T al S M) lim = lc_T al S M (lc_G al S M lim) := by
  have h := lc_G_le al S M lim
  have e := lc_bc_s (T := lc_T al S M) (lim - lc_G al S M lim) (lc_G al S M lim) (fun x h1 h2 => lc_T_0 h1 (by omega))
  rw [show lc_G al S M lim + (lim - lc_G al S M lim) = lim by omega] at e
  rw [e]
  have hT := lc_T_G al S M lim
  revert hT
  generalize lc_G al S M lim = G
  intro hT
  cases G with
  | zero => exact (lc_T_z al S M).symm
  | succ g => exact if_neg (by omega)
/-- allowed labellings through a label, through a couple -/
def lc_th (A : Nat → Bool) (n i a : Nat) (L : Nat) : Bool := A L && decide (lc_d n L i = a)
def lc_tc (A : Nat → Bool) (n i q : Nat) (L : Nat) : Bool := A L && decide (lc_q n L i = q)
theorem lc_th_t {A : Nat → Bool} {n i a L : Nat} : lc_th A n i a L = true ↔ A L = true ∧ lc_d n L i = a := by
  unfold lc_th
  rw [Bool.and_eq_true, decide_eq_true_eq]
theorem lc_tc_t {A : Nat → Bool} {n i a L : Nat} : lc_tc A n i a L = true ↔ A L = true ∧ lc_q n L i = a := by
  unfold lc_tc
  rw [Bool.and_eq_true, decide_eq_true_eq]
theorem lc_nA {A : Nat → Bool} {p : Nat → Bool} {L : Nat} {B : Prop} (t : p L = true ↔ A L = true ∧ B) (h : A L = false) : p L = false := lc_nt (fun y => by have := (t.mp y).1; rw [h] at this; exact absurd this (by decide))
theorem lc_nB {A : Nat → Bool} {p : Nat → Bool} {L : Nat} {B : Prop} (t : p L = true ↔ A L = true ∧ B) (h : ¬ B) : p L = false := lc_nt (fun y => h (t.mp y).2)
