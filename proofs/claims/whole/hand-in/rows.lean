section
/-! pasted from kit/rows/PURE-ROWS -/
theorem pk_us {f : Nat → Int32} {k : Nat} {x : Int32} : upd f k x k = x := if_pos rfl
theorem pk_un {f : Nat → Int32} {k j : Nat} {x : Int32} (h : j ≠ k) : upd f k x j = f j := if_neg h
theorem pk_sub {a b : Nat} (h : b ≤ a) : nI a - nI b = nI (a - b) := by
  obtain ⟨c, rfl⟩ : ∃ c, a = c + b := ⟨a - b, by omega⟩
  rw [← nI_add, Int32.add_sub_cancel, Nat.add_sub_cancel]
theorem pk_m1 (n : Nat) : nI (n + 1) + (-1) = nI n := by
  rw [← nI_1, Int32.add_assoc, show (1 : Int32) + (-1) = 0 from rfl, Int32.add_zero]
theorem pk_mul (a b : Nat) : nI a * nI b = nI (a * b) := (Int32.ofNat_mul a b).symm
theorem pk_div {a d : Nat} (ha : a < 2 ^ 31) (h0 : 0 < d) (hd : d < 2 ^ 31) : nI a / nI d = nI (a / d) := by
  apply Int32.toInt_inj.mp
  rw [lg_idiv_nonneg (by rw [nI_toInt ha]; omega) (by rw [nI_toInt hd]; omega), nI_toInt ha, nI_toInt hd, nI_toInt (Nat.lt_of_le_of_lt (Nat.div_le_self a d) ha)]
  first | rfl | exact (Int.natCast_ediv _ _).symm
theorem pk_rem {a d : Nat} (ha : a < 2 ^ 31) (h0 : 0 < d) (hd : d < 2 ^ 31) : nI a - nI a / nI d * nI d = nI (a % d) := by
  rw [pk_div ha h0 hd, pk_mul, pk_sub (Nat.div_mul_le_self a d)]
  exact congrArg nI (by have := Nat.div_add_mod' a d; omega)
theorem pk_ix (x : Int32) {n : Nat} (hn : n < 2 ^ 31) : x < 0 ∨ nI n ≤ x ∨ ∃ j : Nat, j < n ∧ x = nI j := by
  by_cases h : x < 0
  · exact Or.inl h
  · obtain ⟨j, hj, rfl⟩ := nI_of h
    by_cases h2 : j < n
    · exact Or.inr (Or.inr ⟨j, h2, rfl⟩)
    · exact Or.inr (Or.inl (nI_le (by omega) hj))
theorem pk_le {x y : Int32} {A B : Prop} (a b : Nat) (f : a ≤ b → A) (g : b < a → B) (hx : x = nI a := by rfl) (hy : y = nI b := by rfl) (ha : a < 2 ^ 31 := by omega) (hb : b < 2 ^ 31 := by omega) : (x ≤ y → A) ∧ (¬ x ≤ y → B) := by
  subst hx hy
  rw [nI_leI ha hb]
  exact ⟨f, fun z => g (by omega)⟩
theorem pk_lt {x y : Int32} {A B : Prop} (a b : Nat) (f : a < b → A) (g : b ≤ a → B) (hx : x = nI a := by rfl) (hy : y = nI b := by rfl) (ha : a < 2 ^ 31 := by omega) (hb : b < 2 ^ 31 := by omega) : (x < y → A) ∧ (¬ x < y → B) := by
  subst hx hy
  rw [nI_ltI ha hb]
  exact ⟨f, fun z => g (by omega)⟩
theorem pk_eq {x y : Int32} {A B : Prop} (a b : Nat) (f : a = b → A) (g : a ≠ b → B) (hx : x = nI a := by rfl) (hy : y = nI b := by rfl) (ha : a < 2 ^ 31 := by omega) (hb : b < 2 ^ 31 := by omega) : (x = y → A) ∧ (¬ x = y → B) := by
  subst hx hy
  rw [nI_eq ha hb]
  exact ⟨f, g⟩
theorem pk_in {x : Int32} (n N : Nat) (h : n < N) (hx : x = nI n := by rfl) (hN : N < 2 ^ 31 := by omega) : vp_in x N := by
  subst hx
  exact vp_in_nI h hN
theorem pk_cl {x : Int32} (n : Nat) (hx : x = nI n := by rfl) (h : n < 2 ^ 31 := by omega) : x.toNatClampNeg = n := by
  subst hx
  exact nI_clamp h
theorem pk_loop {σ : Type} (W : Nat → Nat → σ → Prop) (I : Nat → σ → Prop) (e i0 : Nat) (s : σ) (hi : i0 ≤ e) (h0 : I i0 s) (hx : ∀ n s, I e s → W (n + 1) e s)
    (hs : ∀ n i s, i < e → I i s → (∀ s', I (i + 1) s' → W n (i + 1) s') → W (n + 1) i s) : ∃ n, W n i0 s :=
  ⟨e + 1, loop_i W I e hx hs (e + 1) i0 s hi (by omega) h0⟩
theorem pk_loopD {σ : Type} (W : Nat → Nat → σ → Prop) (I : Nat → σ → Prop) (hx : ∀ n s, I 0 s → W (n + 1) 0 s)
    (hs : ∀ n i s, I (i + 1) s → (∀ s', I i s' → W n i s') → W (n + 1) (i + 1) s) : ∀ (e : Nat) (s : σ), I e s → W (e + 1) e s := by
  intro e
  induction e with
  | zero => exact fun s h => hx 0 s h
  | succ e ih => exact fun s h => hs (e + 1) e s h (fun s' h' => ih s' h')
theorem lp1 {A1 : Type} (W : Nat → A1 → Prop) (I : A1 → Prop) (μ : A1 → Nat) (hs : ∀ (n : Nat) (a1 : A1), I a1 → (∀ (b1 : A1), I b1 → μ b1 < μ a1 → W n b1) → W (n + 1) a1) (a1 : A1) (h : I a1) : ∃ n, W n a1 :=
  loop_m (σ := A1) (fun n s => W n s) (fun s => I s) (fun s => μ s) (fun n s hI hk => hs n s hI (fun b1 h9 hm => hk b1 h9 hm)) a1 h
theorem lp2 {A1 A2 : Type} (W : Nat → A1 → A2 → Prop) (I : A1 → A2 → Prop) (μ : A1 → A2 → Nat) (hs : ∀ (n : Nat) (a1 : A1) (a2 : A2), I a1 a2 → (∀ (b1 : A1) (b2 : A2), I b1 b2 → μ b1 b2 < μ a1 a2 → W n b1 b2) → W (n + 1) a1 a2) (a1 : A1) (a2 : A2) (h : I a1 a2) : ∃ n, W n a1 a2 :=
  loop_m (σ := A1 × A2) (fun n s => W n s.1 s.2) (fun s => I s.1 s.2) (fun s => μ s.1 s.2) (fun n s hI hk => hs n s.1 s.2 hI (fun b1 b2 h9 hm => hk (b1, b2) h9 hm)) (a1, a2) h
theorem lp3 {A1 A2 A3 : Type} (W : Nat → A1 → A2 → A3 → Prop) (I : A1 → A2 → A3 → Prop) (μ : A1 → A2 → A3 → Nat) (hs : ∀ (n : Nat) (a1 : A1) (a2 : A2) (a3 : A3), I a1 a2 a3 → (∀ (b1 : A1) (b2 : A2) (b3 : A3), I b1 b2 b3 → μ b1 b2 b3 < μ a1 a2 a3 → W n b1 b2 b3) → W (n + 1) a1 a2 a3) (a1 : A1) (a2 : A2) (a3 : A3) (h : I a1 a2 a3) : ∃ n, W n a1 a2 a3 :=
  loop_m (σ := A1 × A2 × A3) (fun n s => W n s.1 s.2.1 s.2.2) (fun s => I s.1 s.2.1 s.2.2) (fun s => μ s.1 s.2.1 s.2.2) (fun n s hI hk => hs n s.1 s.2.1 s.2.2 hI (fun b1 b2 b3 h9 hm => hk (b1, b2, b3) h9 hm)) (a1, a2, a3) h
theorem sb_m1 {p : Nat} (h : 0 < p) : nI p + (-1) = nI (p - 1) := by
  obtain ⟨q, rfl⟩ : ∃ q, p = q + 1 := ⟨p - 1, by omega⟩
  exact pk_m1 q
end
section
/-! the pure picture: labels, sums, products, allowed labellings, folds over the labellings -/
/-- the label at position i of the labelling L of n positions -/
def lc_d (n L i : Nat) : Nat := L / 3 ^ (n - 1 - i) % 3
theorem lc_d3 (n L i : Nat) : lc_d n L i < 3 := Nat.mod_lt _ (by decide)
/-- the place of position i's label, of the couple at i -/
def lc_p (n L i : Nat) : Nat := 3 * i + lc_d n L i
def lc_q (n L i : Nat) : Nat := 3 * lc_d n L i + lc_d n L (i + 1)
theorem lc_p18 {n L i : Nat} (hn : n ≤ 6) (hi : i < n) : lc_p n L i < 18 := by
  have := lc_d3 n L i
  unfold lc_p
  omega
theorem lc_q9 (n L i : Nat) : lc_q n L i < 9 := by
  have := lc_d3 n L i
  have := lc_d3 n L (i + 1)
  unfold lc_q
  omega
/-- a table of weights -/
def lc_W (w : Nat → Int32) : Prop := ∀ j, ∃ x, x ≤ 9 ∧ w j = nI x
def lc_w (w : Nat → Int32) (j : Nat) : Nat := (w j).toNatClampNeg
theorem lc_w_e {w : Nat → Int32} (h : lc_W w) (j : Nat) : w j = nI (lc_w w j) ∧ lc_w w j ≤ 9 := by
  obtain ⟨x, hx, e⟩ := h j
  have : lc_w w j = x := by unfold lc_w; rw [e]; exact nI_clamp (by omega)
  rw [this]
  exact ⟨e, hx⟩
theorem lc_W_upd {w : Nat → Int32} (h : lc_W w) (k x : Nat) (hx : x ≤ 9) : lc_W (upd w k (nI x)) := by
  intro j
  by_cases e : j = k
  · subst e
    exact ⟨x, hx, pk_us⟩
  · obtain ⟨y, hy, ey⟩ := h j
    exact ⟨y, hy, (pk_un e).trans ey⟩
/-- a table of bars -/
def lc_B (b : Nat → Int32) : Prop := ∀ j, b j = 0 ∨ b j = 1
theorem lc_B_upd {b : Nat → Int32} (h : lc_B b) (k : Nat) {x : Int32} (hx : x = 0 ∨ x = 1) : lc_B (upd b k x) := by
  intro j
  by_cases e : j = k
  · subst e
    rw [pk_us]
    exact hx
  · rw [pk_un e]
    exact h j
/-- sums and products along the labelling -/
def lc_sA (w : Nat → Int32) (n L : Nat) : Nat → Nat
  | 0 => 0
  | i + 1 => lc_sA w n L i + lc_w w (lc_p n L i)
def lc_sB (c : Nat → Int32) (n L : Nat) : Nat → Nat
  | 0 => 0
  | i + 1 => lc_sB c n L i + lc_w c (lc_q n L i)
def lc_S (w c : Nat → Int32) (n L : Nat) : Nat := lc_sA w n L n + lc_sB c n L (n - 1)
theorem lc_sA_le {w : Nat → Int32} (h : lc_W w) (n L : Nat) : ∀ i, lc_sA w n L i ≤ 9 * i := by
  intro i
  induction i with
  | zero => exact Nat.le_refl 0
  | succ i ih =>
    have := (lc_w_e h (lc_p n L i)).2
    show lc_sA w n L i + lc_w w (lc_p n L i) ≤ _
    omega
theorem lc_sB_le {c : Nat → Int32} (h : lc_W c) (n L : Nat) : ∀ i, lc_sB c n L i ≤ 9 * i := by
  intro i
  induction i with
  | zero => exact Nat.le_refl 0
  | succ i ih =>
    have := (lc_w_e h (lc_q n L i)).2
    show lc_sB c n L i + lc_w c (lc_q n L i) ≤ _
    omega
theorem lc_S99 {w c : Nat → Int32} (hw : lc_W w) (hc : lc_W c) {n : Nat} (hn : n ≤ 6) (L : Nat) : lc_S w c n L ≤ 99 := by
  have := lc_sA_le hw n L n
  have := lc_sB_le hc n L (n - 1)
  unfold lc_S
  omega
def lc_pA (w : Nat → Int32) (n L : Nat) : Nat → Int64
  | 0 => 1
  | i + 1 => lc_pA w n L i * (w (lc_p n L i)).toInt64
def lc_pB (c : Nat → Int32) (n L : Nat) : Nat → Int64
  | 0 => 1
  | i + 1 => lc_pB c n L i * (c (lc_q n L i)).toInt64
def lc_P (w c : Nat → Int32) (n L : Nat) : Int64 := lc_pA w n L n * lc_pB c n L (n - 1)
/-- allowed -/
def lc_a1 (b : Nat → Int32) (n L i : Nat) : Bool := decide (b (lc_p n L i) = 0)
def lc_a2 (b : Nat → Int32) (n L i : Nat) : Bool := decide (b (lc_q n L i) = 0)
def lc_al (b d : Nat → Int32) (n L : Nat) : Bool := (List.range n).all (lc_a1 b n L) && (List.range (n - 1)).all (lc_a2 d n L)
theorem lc_al_t {b d : Nat → Int32} {n L : Nat} : lc_al b d n L = true ↔ (∀ i, i < n → b (lc_p n L i) = 0) ∧ (∀ i, i < n - 1 → d (lc_q n L i) = 0) := by
  unfold lc_al
  rw [Bool.and_eq_true, List.all_eq_true, List.all_eq_true]
  constructor
  · rintro ⟨h1, h2⟩
    exact ⟨fun i hi => of_decide_eq_true (h1 i (List.mem_range.mpr hi)), fun i hi => of_decide_eq_true (h2 i (List.mem_range.mpr hi))⟩
  · rintro ⟨h1, h2⟩
    exact ⟨fun i hi => decide_eq_true (h1 i (List.mem_range.mp hi)), fun i hi => decide_eq_true (h2 i (List.mem_range.mp hi))⟩
theorem lc_al_f1 {b d : Nat → Int32} {n L i : Nat} (hi : i < n) (h : ¬ b (lc_p n L i) = 0) : lc_al b d n L = false := by
  cases e : lc_al b d n L with
  | false => rfl
  | true => exact absurd ((lc_al_t.mp e).1 i hi) h
theorem lc_al_f2 {b d : Nat → Int32} {n L i : Nat} (hi : i < n - 1) (h : ¬ d (lc_q n L i) = 0) : lc_al b d n L = false := by
  cases e : lc_al b d n L with
  | false => rfl
  | true => exact absurd ((lc_al_t.mp e).2 i hi) h
/-- a boolean as an int -/
def lc_b : Bool → Int32
  | false => 0
  | true => 1
theorem lc_b0 {x : Bool} : lc_b x = 0 ↔ x = false := by cases x <;> decide
theorem lc_b01 (x : Bool) : lc_b x = 0 ∨ lc_b x = 1 := by cases x <;> decide
/-- a greatest sum, coded: 0 for none, s + 1 for the sum s -/
def lc_e : Nat → Int32
  | 0 => -2
  | c + 1 => nI c
theorem lc_e_i {c : Nat} (h : c < 2 ^ 31) : (lc_e c).toInt = if c = 0 then -2 else (c : Int) - 1 := by
  cases c with
  | zero => decide
  | succ c =>
    show (nI c).toInt = _
    rw [nI_toInt (by omega), if_neg (by omega)]
    omega
theorem lc_e_ge {s c : Nat} (hs : s < 2 ^ 31) (hc : c < 2 ^ 31) : nI s ≤ lc_e c ↔ s + 1 ≤ c := by
  rw [Int32.le_iff_toInt_le, nI_toInt hs, lc_e_i hc]
  split <;> omega
theorem lc_e_eq {s c : Nat} (hs : s < 2 ^ 31) (hc : c < 2 ^ 31) : nI s = lc_e c ↔ s + 1 = c := by
  rw [← Int32.toInt_inj, nI_toInt hs, lc_e_i hc]
  split <;> omega
theorem lc_e_n {c : Nat} (hc : c < 2 ^ 31) : lc_e c = -2 ↔ c = 0 := by
  rw [← Int32.toInt_inj, lc_e_i hc, show (-2 : Int32).toInt = -2 from by decide]
  split <;> omega
/-- folds over the labellings below m -/
def lc_cnt (p : Nat → Bool) : Nat → Nat
  | 0 => 0
  | m + 1 => if p m = true then lc_cnt p m + 1 else lc_cnt p m
theorem lc_cnt_t {p : Nat → Bool} {m : Nat} (h : p m = true) : lc_cnt p (m + 1) = lc_cnt p m + 1 := if_pos h
theorem lc_cnt_f {p : Nat → Bool} {m : Nat} (h : p m = false) : lc_cnt p (m + 1) = lc_cnt p m := if_neg (by rw [h]; decide)
theorem lc_cnt_le (p : Nat → Bool) : ∀ m, lc_cnt p m ≤ m := by
  intro m
  induction m with
  | zero => exact Nat.le_refl 0
  | succ m ih =>
    cases h : p m with
    | false => rw [lc_cnt_f h]; omega
    | true => rw [lc_cnt_t h]; omega
theorem lc_cnt_0 {p : Nat → Bool} : ∀ {m : Nat}, (∀ L, L < m → p L = false) → lc_cnt p m = 0 := by
  intro m
  induction m with
  | zero => exact fun _ => rfl
  | succ m ih =>
    intro h
    rw [lc_cnt_f (h m (by omega))]
    exact ih (fun L hL => h L (by omega))
theorem lc_cnt_pos {p : Nat → Bool} {L : Nat} (hp : p L = true) : ∀ {m : Nat}, L < m → 0 < lc_cnt p m := by
  intro m
  induction m with
  | zero => exact fun h => absurd h (Nat.not_lt_zero _)
  | succ m ih =>
    intro h
    by_cases e : L = m
    · subst e
      rw [lc_cnt_t hp]
      omega
    · have := ih (by omega)
      cases h : p m with
      | false => rw [lc_cnt_f h]; omega
      | true => rw [lc_cnt_t h]; omega
def lc_tot (p : Nat → Bool) (P : Nat → Int64) : Nat → Int64
  | 0 => 0
  | m + 1 => if p m = true then lc_tot p P m + P m else lc_tot p P m
theorem lc_tot_t {p : Nat → Bool} {P : Nat → Int64} {m : Nat} (h : p m = true) : lc_tot p P (m + 1) = lc_tot p P m + P m := if_pos h
theorem lc_tot_f {p : Nat → Bool} {P : Nat → Int64} {m : Nat} (h : p m = false) : lc_tot p P (m + 1) = lc_tot p P m := if_neg (by rw [h]; decide)
def lc_mx (p : Nat → Bool) (S : Nat → Nat) : Nat → Nat
  | 0 => 0
  | m + 1 => if p m = true ∧ lc_mx p S m ≤ S m then S m + 1 else lc_mx p S m
theorem lc_mx_t {p : Nat → Bool} {S : Nat → Nat} {m : Nat} (h : p m = true) (h2 : lc_mx p S m ≤ S m) : lc_mx p S (m + 1) = S m + 1 := if_pos ⟨h, h2⟩
theorem lc_mx_f {p : Nat → Bool} {S : Nat → Nat} {m : Nat} (h : p m = false) : lc_mx p S (m + 1) = lc_mx p S m := if_neg (fun z => by rw [h] at z; exact absurd z.1 (by decide))
theorem lc_mx_g {p : Nat → Bool} {S : Nat → Nat} {m : Nat} (h : S m < lc_mx p S m) : lc_mx p S (m + 1) = lc_mx p S m := if_neg (fun z => by have := z.2; omega)
theorem lc_mx_c (p : Nat → Bool) (S : Nat → Nat) (m : Nat) : (p m = true ∧ lc_mx p S m ≤ S m ∧ lc_mx p S (m + 1) = S m + 1) ∨ ((p m = false ∨ S m < lc_mx p S m) ∧ lc_mx p S (m + 1) = lc_mx p S m) := by
  cases h : p m with
  | false => exact Or.inr ⟨Or.inl rfl, lc_mx_f h⟩
  | true =>
    by_cases h2 : lc_mx p S m ≤ S m
    · exact Or.inl ⟨rfl, h2, lc_mx_t h h2⟩
    · exact Or.inr ⟨Or.inr (by omega), lc_mx_g (by omega)⟩
theorem lc_mx_ub {p : Nat → Bool} {S : Nat → Nat} : ∀ {m L : Nat}, L < m → p L = true → S L + 1 ≤ lc_mx p S m := by
  intro m
  induction m with
  | zero => exact fun h => absurd h (Nat.not_lt_zero _)
  | succ m ih =>
    intro L hL hp
    by_cases e : L = m
    · subst e
      rcases lc_mx_c p S L with ⟨_, h2, h3⟩ | ⟨h2 | h2, h3⟩
      · omega
      · rw [h2] at hp
        exact absurd hp (by decide)
      · omega
    · have h := ih (L := L) (by omega) hp
      rcases lc_mx_c p S m with ⟨_, h2, h3⟩ | ⟨_, h3⟩ <;> omega
theorem lc_mx_at (p : Nat → Bool) (S : Nat → Nat) : ∀ m, lc_mx p S m = 0 ∨ ∃ L, L < m ∧ p L = true ∧ S L + 1 = lc_mx p S m := by
  intro m
  induction m with
  | zero => exact Or.inl rfl
  | succ m ih =>
    rcases lc_mx_c p S m with ⟨h1, h2, h3⟩ | ⟨_, h3⟩
    · exact Or.inr ⟨m, by omega, h1, h3.symm⟩
    · rw [h3]
      rcases ih with h | ⟨L, hL, h⟩
      · exact Or.inl h
      · exact Or.inr ⟨L, by omega, h⟩
/-- how many labellings have the sum coded c; the greatest sum below lim, coded -/
def lc_tp (al : Nat → Bool) (S : Nat → Nat) (c : Nat) (L : Nat) : Bool := al L && decide (S L + 1 = c)
def lc_gp (al : Nat → Bool) (S : Nat → Nat) (lim : Nat) (L : Nat) : Bool := al L && decide (S L < lim)
theorem lc_tp_t {al : Nat → Bool} {S : Nat → Nat} {c L : Nat} : lc_tp al S c L = true ↔ al L = true ∧ S L + 1 = c := by
  unfold lc_tp
  rw [Bool.and_eq_true, decide_eq_true_eq]
theorem lc_gp_t {al : Nat → Bool} {S : Nat → Nat} {c L : Nat} : lc_gp al S c L = true ↔ al L = true ∧ S L < c := by
  unfold lc_gp
  rw [Bool.and_eq_true, decide_eq_true_eq]
theorem lc_nt {x : Bool} (h : ¬ x = true) : x = false := by cases x <;> trivial
def lc_T (al : Nat → Bool) (S : Nat → Nat) (M c : Nat) : Nat := lc_cnt (lc_tp al S c) M
def lc_G (al : Nat → Bool) (S : Nat → Nat) (M lim : Nat) : Nat := lc_mx (lc_gp al S lim) S M
theorem lc_G_le (al : Nat → Bool) (S : Nat → Nat) (M lim : Nat) : lc_G al S M lim ≤ lim := by
  rcases lc_mx_at (lc_gp al S lim) S M with h | ⟨L, _, h, e⟩
  · unfold lc_G
    omega
  · have := (lc_gp_t.mp h).2
    unfold lc_G
    omega
theorem lc_T_0 {al : Nat → Bool} {S : Nat → Nat} {M lim c : Nat} (h1 : lc_G al S M lim < c) (h2 : c ≤ lim) : lc_T al S M c = 0 := by
  apply lc_cnt_0
  intro L hL
  apply lc_nt
  intro h
  have ⟨a, e⟩ := lc_tp_t.mp h
  have := lc_mx_ub (S := S) hL (lc_gp_t.mpr ⟨a, (show S L < lim by omega)⟩)
  unfold lc_G at h1
  omega
theorem lc_T_G (al : Nat → Bool) (S : Nat → Nat) (M lim : Nat) : lc_G al S M lim = 0 ∨ 0 < lc_T al S M (lc_G al S M lim) := by
  rcases lc_mx_at (lc_gp al S lim) S M with h | ⟨L, hL, h, e⟩
  · exact Or.inl h
  · exact Or.inr (lc_cnt_pos (lc_tp_t.mpr ⟨(lc_gp_t.mp h).1, e⟩) hL)
theorem lc_T_z (al : Nat → Bool) (S : Nat → Nat) (M : Nat) : lc_T al S M 0 = 0 := by
  apply lc_cnt_0
  intro L _
  apply lc_nt
  intro h
  have := (lc_tp_t.mp h).2
  omega
/-- the reference's way down the tally: the answer, coded, from the sums coded c and below, b passed -/
def lc_yr (T : Nat → Nat) (k : Nat) : Nat → Nat → Nat
  | 0, _ => 0
  | c + 1, b => if k < b + T (c + 1) then c + 1 else lc_yr T k c (b + T (c + 1))
theorem lc_yr_t {T : Nat → Nat} {k c b : Nat} (h : k < b + T (c + 1)) : lc_yr T k (c + 1) b = c + 1 := if_pos h
theorem lc_yr_f {T : Nat → Nat} {k c b : Nat} (h : b + T (c + 1) ≤ k) : lc_yr T k (c + 1) b = lc_yr T k c (b + T (c + 1)) := if_neg (by omega)
theorem lc_yr_s {T : Nat → Nat} {k b : Nat} (hb : b ≤ k) : ∀ d c, (∀ x, c < x → x ≤ c + d → T x = 0) → lc_yr T k (c + d) b = lc_yr T k c b := by
  intro d
  induction d with
  | zero => exact fun _ _ => rfl
  | succ d ih =>
    intro c h
    have h0 := h (c + d + 1) (by omega) (by omega)
    show lc_yr T k (c + d + 1) b = _
    rw [lc_yr_f (by omega), h0]
    exact ih c (fun x h1 h2 => h x h1 (by omega))
theorem lc_yr_G {al : Nat → Bool} {S : Nat → Nat} {M k b : Nat} (hb : b ≤ k) (lim : Nat) : lc_yr (lc_T al S M) k lim b = lc_yr (lc_T al S M) k (lc_G al S M lim) b := by
  have h := lc_G_le al S M lim
  have e := lc_yr_s (T := lc_T al S M) hb (lim - lc_G al S M lim) (lc_G al S M lim) (fun x h1 h2 => lc_T_0 h1 (by omega))
  rw [show lc_G al S M lim + (lim - lc_G al S M lim) = lim by omega] at e
  exact e
theorem lc_bt {x : Bool} (h : ¬ lc_b x = 0) : x = true := by cases x with
  | false => exact absurd rfl h
  | true => rfl
/-- -1 for 0, s for s + 1 -/
def lc_f : Nat → Int32
  | 0 => -1
  | c + 1 => nI c
theorem lc_f_i {c : Nat} (h : c < 2 ^ 31) : (lc_f c).toInt = (c : Int) - 1 := by
  cases c with
  | zero => decide
  | succ c =>
    show (nI c).toInt = _
    rw [nI_toInt (by omega)]
    omega
theorem lc_f_m1 (s : Nat) : nI s + (-1) = lc_f s := by
  cases s with
  | zero => decide
  | succ s => exact pk_m1 s
theorem lc_f_ge {s c : Nat} (hs : s < 2 ^ 31) (hc : c < 2 ^ 31) : nI s ≤ lc_f c ↔ s + 1 ≤ c := by
  rw [Int32.le_iff_toInt_le, nI_toInt hs, lc_f_i hc]
  omega
theorem lc_f_lt {c : Nat} (hc : c < 2 ^ 31) (x : Int32) : lc_f c < x ↔ nI c ≤ x := by
  rw [Int32.lt_iff_toInt_lt, Int32.le_iff_toInt_le, nI_toInt hc, lc_f_i hc]
  omega
/-- the first labelling of the greatest sum, coded -/
def lc_fk (A : Nat → Bool) (S : Nat → Nat) : Nat → Nat
  | 0 => 0
  | m + 1 => if A m = true ∧ lc_mx A S m ≤ S m then m + 1 else lc_fk A S m
theorem lc_fk_t {p : Nat → Bool} {S : Nat → Nat} {m : Nat} (h : p m = true) (h2 : lc_mx p S m ≤ S m) : lc_fk p S (m + 1) = m + 1 := if_pos ⟨h, h2⟩
theorem lc_fk_f {p : Nat → Bool} {S : Nat → Nat} {m : Nat} (h : p m = false) : lc_fk p S (m + 1) = lc_fk p S m := if_neg (fun z => by rw [h] at z; exact absurd z.1 (by decide))
theorem lc_fk_g {p : Nat → Bool} {S : Nat → Nat} {m : Nat} (h : S m < lc_mx p S m) : lc_fk p S (m + 1) = lc_fk p S m := if_neg (fun z => by have := z.2; omega)
theorem lc_fk_s (A : Nat → Bool) (S : Nat → Nat) : ∀ m, (lc_fk A S m = 0 ∧ lc_mx A S m = 0) ∨ ∃ k, k < m ∧ lc_fk A S m = k + 1 ∧ A k = true ∧ lc_mx A S m = S k + 1 ∧ ∀ L, L < k → A L = true → S L < S k := by
  intro m
  induction m with
  | zero => exact Or.inl ⟨rfl, rfl⟩
  | succ m ih =>
    rcases lc_mx_c A S m with ⟨h1, h2, h3⟩ | ⟨h2, h3⟩
    · refine Or.inr ⟨m, by omega, lc_fk_t h1 h2, h1, h3, fun L hL hA => ?_⟩
      have := lc_mx_ub (S := S) hL hA
      omega
    · have e : lc_fk A S (m + 1) = lc_fk A S m := by
        rcases h2 with h2 | h2
        · exact lc_fk_f h2
        · exact lc_fk_g h2
      rw [e, h3]
      rcases ih with h | ⟨k, hk, h⟩
      · exact Or.inl h
      · exact Or.inr ⟨k, by omega, h⟩
theorem lc_mx_0 {A : Nat → Bool} {S : Nat → Nat} {m : Nat} (h : lc_mx A S m = 0) : ∀ L, L < m → A L = false := by
  intro L hL
  apply lc_nt
  intro hA
  have := lc_mx_ub (S := S) hL hA
  omega
theorem lc_G_mx {A : Nat → Bool} {S : Nat → Nat} (h : ∀ L, S L ≤ 99) (M : Nat) : lc_G A S M 100 = lc_mx A S M := by
  have e : lc_gp A S 100 = A := by
    funext L
    unfold lc_gp
    rw [decide_eq_true (show S L < 100 by have := h L; omega), Bool.and_true]
  unfold lc_G
  rw [e]
/-- the reference's best count: the first tally above 0 -/
def lc_bc (T : Nat → Nat) : Nat → Nat
  | 0 => 0
  | t + 1 => if T (t + 1) = 0 then lc_bc T t else T (t + 1)
theorem lc_bc_s {T : Nat → Nat} : ∀ d c, (∀ x, c < x → x ≤ c + d → T x = 0) → lc_bc T (c + d) = lc_bc T c := by
  intro d
  induction d with
  | zero => exact fun _ _ => rfl
  | succ d ih =>
    intro c h
    have h0 := h (c + d + 1) (by omega) (by omega)
    exact (if_pos h0).trans (ih c (fun x h1 h2 => h x h1 (by omega)))
theorem lc_bc_G (al : Nat → Bool) (S : Nat → Nat) (M lim : Nat) : lc_bc (lc_T al S M) lim = lc_T al S M (lc_G al S M lim) := by
  have h := lc_G_le al S M lim
  have e := lc_bc_s (T := lc_T al S M) (lim - lc_G al S M lim) (lc_G al S M lim) (fun x h1 h2 => lc_T_0 h1 (by omega))
  rw [show lc_G al S M lim + (lim - lc_G al S M lim) = lim by omega] at e
  rw [e]
  have hT := lc_T_G al S M lim
  revert hT
  generalize lc_G al S M lim = G
  intro hT
  cases G with
  | zero => exact (lc_T_z al S M).symm
  | succ g => exact if_neg (by omega)
/-- allowed labellings through a label, through a couple -/
def lc_th (A : Nat → Bool) (n i a : Nat) (L : Nat) : Bool := A L && decide (lc_d n L i = a)
def lc_tc (A : Nat → Bool) (n i q : Nat) (L : Nat) : Bool := A L && decide (lc_q n L i = q)
theorem lc_th_t {A : Nat → Bool} {n i a L : Nat} : lc_th A n i a L = true ↔ A L = true ∧ lc_d n L i = a := by
  unfold lc_th
  rw [Bool.and_eq_true, decide_eq_true_eq]
theorem lc_tc_t {A : Nat → Bool} {n i a L : Nat} : lc_tc A n i a L = true ↔ A L = true ∧ lc_q n L i = a := by
  unfold lc_tc
  rw [Bool.and_eq_true, decide_eq_true_eq]
theorem lc_nA {A : Nat → Bool} {p : Nat → Bool} {L : Nat} {B : Prop} (t : p L = true ↔ A L = true ∧ B) (h : A L = false) : p L = false := lc_nt (fun y => by have := (t.mp y).1; rw [h] at this; exact absurd this (by decide))
theorem lc_nB {A : Nat → Bool} {p : Nat → Bool} {L : Nat} {B : Prop} (t : p L = true ↔ A L = true ∧ B) (h : ¬ B) : p L = false := lc_nt (fun y => h (t.mp y).2)
end
section
/-! the component's private methods, each with a general post -/
section
variable {n M L i : Nat} {m : Int32} {w b c d : Nat → Int32}
theorem lc_n1 (h : 1 ≤ n) : nI n - 1 = nI (n - 1) := pk_sub (b := 1) h
theorem lc_div3 (hL : L < 2 ^ 31) : nI L / 3 = nI (L / 3) := pk_div (d := 3) hL (by decide) (by decide)
theorem lc_rem3 (hL : L < 2 ^ 31) : nI L - nI L / 3 * 3 = nI (L % 3) := pk_rem (d := 3) hL (by decide) (by decide)
theorem lc_pe (n L i : Nat) : 3 * nI i + nI (lc_d n L i) = nI (lc_p n L i) := by
  unfold lc_p
  rw [← nI_add, ← pk_mul]
  rfl
theorem lc_qe (n L i : Nat) : 3 * nI (lc_d n L i) + nI (lc_d n L (i + 1)) = nI (lc_q n L i) := by
  unfold lc_q
  rw [← nI_add, ← pk_mul]
  rfl
theorem lc_pc (hn : n ≤ 6) (hi : i < n) : (nI (lc_p n L i)).toNatClampNeg = lc_p n L i := nI_clamp (by have := lc_p18 (L := L) hn hi; omega)
theorem lc_qc (n L i : Nat) : (nI (lc_q n L i)).toNatClampNeg = lc_q n L i := nI_clamp (by have := lc_q9 n L i; omega)
theorem lx_la (post : Int32 → Prop) (hi : i < 100) : ∀ t L : Nat, t < 100 → L < 2 ^ 31 → post (nI (L / 3 ^ t % 3)) → wX_labelAt_10 post (nI i) (nI n) m w b c d (t + 1) (nI L) (nI (i + t)) := by
  intro t
  induction t with
  | zero =>
    intro L _ hL h
    refine br_t (nI_le (by omega) (by omega)) ⟨by decide, ?_⟩
    rw [lc_rem3 hL]
    rw [Nat.pow_zero, Nat.div_one] at h
    exact h
  | succ t ih =>
    intro L ht hL h
    refine br_f (nI_ge (by omega) (by omega)) ⟨by decide, nm_r (lc_div3 hL) (nm_r (pk_m1 (i + t)) (ih (L / 3) (by omega) (by omega) ?_))⟩
    rw [Nat.div_div_eq_div_mul, ← Nat.pow_succ']
    exact h
theorem lx_labelAt (hn : n ≤ 6) (hi : i < n) (hL : L < 2 ^ 31) (post : Int32 → Prop) (h : post (nI (lc_d n L i))) {y : Int32} (hy : y = nI i := by rfl) : wpX_labelAt post (nI n, m, w, b, c, d) (nI L) y := by
  subst hy
  obtain ⟨t, rfl⟩ : ∃ t, n = i + t + 1 := ⟨n - 1 - i, by omega⟩
  unfold lc_d at h
  rw [show i + t + 1 - 1 - i = t by omega] at h
  exact nm_r (lc_n1 (by omega)) ⟨t + 1, lx_la post (by omega) t L (by omega) hL h⟩
theorem lx_coupleAt (hn : n ≤ 6) (hi : i < n - 1) (hL : L < 2 ^ 31) (post : Int32 → Prop) (h : post (nI (lc_q n L i))) : wpX_coupleAt post (nI n, m, w, b, c, d) (nI L) (nI i) := by
  unfold wpX_coupleAt
  dsimp only
  refine lx_labelAt (i := i) hn (by omega) hL _ ?_
  refine lx_labelAt (i := i + 1) hn (by omega) hL _ ?_ (nI_1 i)
  rw [lc_qe]
  exact h
theorem lx_al2 (hn0 : 1 ≤ n) (hn : n ≤ 6) (hL : L < 2 ^ 31) (post : Int32 → Prop) (h : post (lc_b (lc_al b d n L))) (h1 : ∀ j, j < n → b (lc_p n L j) = 0) : ∀ t i, i + t = n - 1 → (∀ j, j < i → d (lc_q n L j) = 0) → wX_isAllowed_38 post (nI L) (nI n) m w b c d (t + 1) (nI i) := by
  intro t
  induction t with
  | zero =>
    intro i hi h2
    have e : lc_al b d n L = true := lc_al_t.mpr ⟨h1, fun j hj => h2 j (by omega)⟩
    rw [e] at h
    exact br_t (by rw [lc_n1 hn0]; exact nI_le (by omega) (by omega)) h
  | succ t ih =>
    intro i hi h2
    refine br_f (by rw [lc_n1 hn0]; exact nI_ge (by omega) (by omega)) (lx_coupleAt hn (by omega) hL _ ?_)
    rw [lc_qc]
    refine ⟨vp_in_nI (lc_q9 n L i) (by decide), br_c (fun z => nm_r (nI_1 i) (ih (i + 1) (by omega) (fun j hj => ?_))) (fun z => ?_)⟩
    · by_cases e : j = i
      · rw [e]
        exact z
      · exact h2 j (by omega)
    · rw [lc_al_f2 (by omega) z] at h
      exact h
theorem lx_al1 (hn0 : 1 ≤ n) (hn : n ≤ 6) (hL : L < 2 ^ 31) (post : Int32 → Prop) (h : post (lc_b (lc_al b d n L))) : ∀ t i, i + t = n → (∀ j, j < i → b (lc_p n L j) = 0) → wX_isAllowed_2 post (nI L) (nI n) m w b c d (t + 1) (nI i) := by
  intro t
  induction t with
  | zero =>
    intro i hi h1
    exact br_t (nI_le (by omega) (by omega)) ⟨_, lx_al2 hn0 hn hL post h (fun j hj => h1 j (by omega)) (n - 1) 0 (by omega) (fun j hj => absurd hj (Nat.not_lt_zero j))⟩
  | succ t ih =>
    intro i hi h1
    refine br_f (nI_ge (by omega) (by omega)) (lx_labelAt (i := i) hn (by omega) hL _ ?_)
    rw [lc_pe, lc_pc hn (by omega)]
    refine ⟨vp_in_nI (lc_p18 hn (by omega)) (by decide), br_c (fun z => nm_r (nI_1 i) (ih (i + 1) (by omega) (fun j hj => ?_))) (fun z => ?_)⟩
    · by_cases e : j = i
      · rw [e]
        exact z
      · exact h1 j (by omega)
    · rw [lc_al_f1 (by omega) z] at h
      exact h
theorem lx_isAllowed (hn0 : 1 ≤ n) (hn : n ≤ 6) (hL : L < 2 ^ 31) (post : Int32 → Prop) (h : post (lc_b (lc_al b d n L))) : wpX_isAllowed post (nI n, m, w, b, c, d) (nI L) :=
  ⟨_, lx_al1 hn0 hn hL post h n 0 (by omega) (fun j hj => absurd hj (Nat.not_lt_zero j))⟩
theorem lx_s2 (hn0 : 1 ≤ n) (hn : n ≤ 6) (hc : lc_W c) (hL : L < 2 ^ 31) (post : Int32 → Prop) (h : post (nI (lc_S w c n L))) : ∀ t i, i + t = n - 1 → wX_sumOf_38 post (nI L) (nI n) m w b c d (t + 1) (nI (lc_sA w n L n + lc_sB c n L i)) (nI i) := by
  intro t
  induction t with
  | zero =>
    intro i hi
    have e : i = n - 1 := by omega
    rw [e]
    exact br_t (by rw [lc_n1 hn0]; exact nI_le (by omega) (by omega)) h
  | succ t ih =>
    intro i hi
    refine br_f (by rw [lc_n1 hn0]; exact nI_ge (by omega) (by omega)) (lx_coupleAt hn (by omega) hL _ ?_)
    rw [lc_qc, (lc_w_e hc (lc_q n L i)).1]
    refine ⟨vp_in_nI (lc_q9 n L i) (by decide), nm_r ?_ (nm_r (nI_1 i) (ih (i + 1) (by omega)))⟩
    rw [nI_add, Nat.add_assoc]
    rfl
theorem lx_s1 (hn0 : 1 ≤ n) (hn : n ≤ 6) (hw : lc_W w) (hc : lc_W c) (hL : L < 2 ^ 31) (post : Int32 → Prop) (h : post (nI (lc_S w c n L))) : ∀ t i, i + t = n → wX_sumOf_4 post (nI L) (nI n) m w b c d (t + 1) (nI (lc_sA w n L i)) (nI i) := by
  intro t
  induction t with
  | zero =>
    intro i hi
    have e : i = n := by omega
    rw [e]
    exact br_t (nI_le (by omega) (by omega)) ⟨_, lx_s2 hn0 hn hc hL post h (n - 1) 0 (by omega)⟩
  | succ t ih =>
    intro i hi
    refine br_f (nI_ge (by omega) (by omega)) (lx_labelAt (i := i) hn (by omega) hL _ ?_)
    rw [lc_pe, lc_pc hn (by omega), (lc_w_e hw (lc_p n L i)).1]
    exact ⟨vp_in_nI (lc_p18 hn (by omega)) (by decide), nm_r (nI_add _ _) (nm_r (nI_1 i) (ih (i + 1) (by omega)))⟩
theorem lx_sumOf (hn0 : 1 ≤ n) (hn : n ≤ 6) (hw : lc_W w) (hc : lc_W c) (hL : L < 2 ^ 31) (post : Int32 → Prop) (h : post (nI (lc_S w c n L))) : wpX_sumOf post (nI n, m, w, b, c, d) (nI L) :=
  ⟨_, lx_s1 hn0 hn hw hc hL post h n 0 (by omega)⟩
theorem lx_p2 (hn0 : 1 ≤ n) (hn : n ≤ 6) (hL : L < 2 ^ 31) (post : Int64 → Prop) (h : post (lc_P w c n L)) : ∀ t i, i + t = n - 1 → wX_productOf_44 post (nI L) (nI n) m w b c d (t + 1) (lc_pA w n L n * lc_pB c n L i) (nI i) := by
  intro t
  induction t with
  | zero =>
    intro i hi
    have e : i = n - 1 := by omega
    rw [e]
    exact br_t (by rw [lc_n1 hn0]; exact nI_le (by omega) (by omega)) h
  | succ t ih =>
    intro i hi
    refine br_f (by rw [lc_n1 hn0]; exact nI_ge (by omega) (by omega)) (lx_coupleAt hn (by omega) hL _ ?_)
    rw [lc_qc]
    exact ⟨vp_in_nI (lc_q9 n L i) (by decide), nm_r (Int64.mul_assoc _ _ _) (nm_r (nI_1 i) (ih (i + 1) (by omega)))⟩
theorem lx_p1 (hn0 : 1 ≤ n) (hn : n ≤ 6) (hL : L < 2 ^ 31) (post : Int64 → Prop) (h : post (lc_P w c n L)) : ∀ t i, i + t = n → wX_productOf_5 post (nI L) (nI n) m w b c d (t + 1) (lc_pA w n L i) (nI i) := by
  intro t
  induction t with
  | zero =>
    intro i hi
    have e : i = n := by omega
    rw [e]
    refine br_t (nI_le (by omega) (by omega)) ⟨n - 1 + 1, ?_⟩
    have q := lx_p2 (m := m) (b := b) (d := d) hn0 hn hL post h (n - 1) 0 (by omega)
    rw [show lc_pB c n L 0 = 1 from rfl, Int64.mul_one] at q
    exact q
  | succ t ih =>
    intro i hi
    refine br_f (nI_ge (by omega) (by omega)) (lx_labelAt (i := i) hn (by omega) hL _ ?_)
    rw [lc_pe, lc_pc hn (by omega)]
    exact ⟨vp_in_nI (lc_p18 hn (by omega)) (by decide), nm_e (nm_r (nI_1 i) (ih (i + 1) (by omega)))⟩
theorem lx_productOf (hn0 : 1 ≤ n) (hn : n ≤ 6) (hL : L < 2 ^ 31) (post : Int64 → Prop) (h : post (lc_P w c n L)) : wpX_productOf post (nI n, m, w, b, c, d) (nI L) :=
  ⟨_, lx_p1 hn0 hn hL post h n 0 (by omega)⟩
theorem lx_num (post : Int32 → Prop) (hn : n ≤ 6) (h : post (nI (3 ^ n))) : ∀ t i, i + t = n → wX_numberOfLabellings_4 post (nI n) (t + 1) (nI (3 ^ i)) (nI i) := by
  intro t
  induction t with
  | zero =>
    intro i hi
    have e : i = n := by omega
    rw [e]
    exact br_t (nI_le (by omega) (by omega)) h
  | succ t ih =>
    intro i hi
    exact br_f (nI_ge (by omega) (by omega)) (nm_r ((pk_mul (3 ^ i) 3).trans (congrArg nI (Nat.pow_succ 3 i).symm)) (nm_r (nI_1 i) (ih (i + 1) (by omega))))
theorem lx_numberOf (post : Int32 → Prop) (hn : n ≤ 6) (h : post (nI (3 ^ n))) : wpX_numberOfLabellings post (nI n) :=
  ⟨_, lx_num post hn h n 0 (by omega)⟩
end
end
section
/-! the component's questions -/
section
variable {n M i : Nat} {w b c d : Nat → Int32}
theorem lx_alw (hn0 : 1 ≤ n) (hn : n ≤ 6) (hM : M ≤ 729) (post : Int32 → Prop) (h : post (nI (lc_cnt (lc_al b d n) M))) : ∀ t m, m + t = M → wX_allowed_4 post (nI n) (nI M) w b c d (t + 1) (nI (lc_cnt (lc_al b d n) m)) (nI m) := by
  intro t
  induction t with
  | zero =>
    intro m hm
    have e : m = M := by omega
    rw [e]
    exact br_t (nI_le (by omega) (by omega)) h
  | succ t ih =>
    intro m hm
    have q := ih (m + 1) (by omega)
    refine br_f (nI_ge (by omega) (by omega)) (lx_isAllowed hn0 hn (by omega) _ (br_c (fun z => ?_) (fun z => ?_)))
    · rw [lc_cnt_f (lc_b0.mp z)] at q
      exact nm_r (nI_1 m) q
    · rw [lc_cnt_t (lc_bt z)] at q
      exact nm_r (nI_1 _) (nm_r (nI_1 m) q)
theorem lx_allowed (hn0 : 1 ≤ n) (hn : n ≤ 6) (hM : M ≤ 729) (post : Int32 → Prop) (h : post (nI (lc_cnt (lc_al b d n) M))) : wpX_allowed post (nI n, nI M, w, b, c, d) :=
  ⟨_, lx_alw hn0 hn hM post h M 0 (by omega)⟩
theorem lx_gr (hn0 : 1 ≤ n) (hn : n ≤ 6) (hM : M ≤ 729) (hw : lc_W w) (hc : lc_W c) {lim : Nat} (hl : lim ≤ 100) (post : Int32 → Prop) (h : post (lc_e (lc_G (lc_al b d n) (lc_S w c n) M lim))) : ∀ t m, m + t = M → wX_greatestSumBelow_5 post (nI lim) (nI n) (nI M) w b c d (t + 1) (lc_e (lc_G (lc_al b d n) (lc_S w c n) m lim)) (nI m) := by
  intro t
  induction t with
  | zero =>
    intro m hm
    have e : m = M := by omega
    rw [e]
    exact br_t (nI_le (by omega) (by omega)) h
  | succ t ih =>
    intro m hm
    have q := ih (m + 1) (by omega)
    unfold lc_G at q ⊢
    have hS := lc_S99 hw hc hn m
    have hG : lc_mx (lc_gp (lc_al b d n) (lc_S w c n) lim) (lc_S w c n) m ≤ lim := lc_G_le (lc_al b d n) (lc_S w c n) m lim
    refine br_f (nI_ge (by omega) (by omega)) (lx_isAllowed hn0 hn (by omega) _ (br_c (fun z => ?_) (fun z => ?_)))
    · rw [lc_mx_f (lc_nt (fun y => by have := (lc_gp_t.mp y).1; rw [lc_b0.mp z] at this; exact absurd this (by decide)))] at q
      exact nm_r (nI_1 m) q
    · refine lx_sumOf hn0 hn hw hc (by omega) _ ?_
      by_cases hs : lim ≤ lc_S w c n m
      · rw [lc_mx_f (lc_nt (fun y => by have := (lc_gp_t.mp y).2; omega))] at q
        exact br_t (nI_le hs (by omega)) (nm_r (nI_1 m) q)
      · refine br_f (nI_ge (by omega) (by omega)) ?_
        by_cases hg : lc_S w c n m + 1 ≤ lc_mx (lc_gp (lc_al b d n) (lc_S w c n) lim) (lc_S w c n) m
        · rw [lc_mx_g (by omega)] at q
          exact br_t ((lc_e_ge (by omega) (by omega)).mpr hg) (nm_r (nI_1 m) q)
        · rw [lc_mx_t (lc_gp_t.mpr ⟨lc_bt z, by omega⟩) (by omega)] at q
          exact br_f (fun y => hg ((lc_e_ge (by omega) (by omega)).mp y)) (nm_r (nI_1 m) q)
theorem lx_greatest (hn0 : 1 ≤ n) (hn : n ≤ 6) (hM : M ≤ 729) (hw : lc_W w) (hc : lc_W c) {lim : Nat} (hl : lim ≤ 100) (post : Int32 → Prop) (h : post (lc_e (lc_G (lc_al b d n) (lc_S w c n) M lim))) : wpX_greatestSumBelow post (nI n, nI M, w, b, c, d) (nI lim) :=
  ⟨_, lx_gr hn0 hn hM hw hc hl post h M 0 (by omega)⟩
theorem lx_best (hn0 : 1 ≤ n) (hn : n ≤ 6) (hM : M ≤ 729) (hw : lc_W w) (hc : lc_W c) (post : Int32 → Prop) (h : post (lc_e (lc_G (lc_al b d n) (lc_S w c n) M 100))) : wpX_best post (nI n, nI M, w, b, c, d) := by
  unfold wpX_best
  dsimp only
  exact lx_greatest (lim := 100) hn0 hn hM hw hc (by omega) _ h
theorem lx_cs (hn0 : 1 ≤ n) (hn : n ≤ 6) (hM : M ≤ 729) (hw : lc_W w) (hc : lc_W c) {k : Nat} (hk : k ≤ 100) (post : Int32 → Prop) (h : post (nI (lc_T (lc_al b d n) (lc_S w c n) M k))) : ∀ t m, m + t = M → wX_countWithSum_4 post (lc_e k) (nI n) (nI M) w b c d (t + 1) (nI (lc_T (lc_al b d n) (lc_S w c n) m k)) (nI m) := by
  intro t
  induction t with
  | zero =>
    intro m hm
    have e : m = M := by omega
    rw [e]
    exact br_t (nI_le (by omega) (by omega)) h
  | succ t ih =>
    intro m hm
    have q := ih (m + 1) (by omega)
    unfold lc_T at q ⊢
    have hS := lc_S99 hw hc hn m
    refine br_f (nI_ge (by omega) (by omega)) (lx_isAllowed hn0 hn (by omega) _ (br_c (fun z => ?_) (fun z => ?_)))
    · rw [lc_cnt_f (lc_nt (fun y => by have := (lc_tp_t.mp y).1; rw [lc_b0.mp z] at this; exact absurd this (by decide)))] at q
      exact nm_r (nI_1 m) q
    · refine lx_sumOf hn0 hn hw hc (by omega) _ (br_c (fun y => ?_) (fun y => ?_))
      · rw [lc_cnt_t (lc_tp_t.mpr ⟨lc_bt z, (lc_e_eq (by omega) (by omega)).mp y⟩)] at q
        exact nm_r (nI_1 _) (nm_r (nI_1 m) q)
      · rw [lc_cnt_f (lc_nt (fun x => y ((lc_e_eq (by omega) (by omega)).mpr (lc_tp_t.mp x).2)))] at q
        exact nm_r (nI_1 m) q
theorem lx_count (hn0 : 1 ≤ n) (hn : n ≤ 6) (hM : M ≤ 729) (hw : lc_W w) (hc : lc_W c) {k : Nat} (hk : k ≤ 100) (post : Int32 → Prop) (h : post (nI (lc_T (lc_al b d n) (lc_S w c n) M k))) : wpX_countWithSum post (nI n, nI M, w, b, c, d) (lc_e k) :=
  ⟨_, lx_cs hn0 hn hM hw hc hk post h M 0 (by omega)⟩
theorem lx_bestCount (hn0 : 1 ≤ n) (hn : n ≤ 6) (hM : M ≤ 729) (hw : lc_W w) (hc : lc_W c) (post : Int32 → Prop) (h : post (nI (lc_T (lc_al b d n) (lc_S w c n) M (lc_G (lc_al b d n) (lc_S w c n) M 100)))) : wpX_bestCount post (nI n, nI M, w, b, c, d) := by
  unfold wpX_bestCount
  dsimp only
  refine lx_best hn0 hn hM hw hc _ ?_
  exact lx_count hn0 hn hM hw hc (lc_G_le _ _ _ _) _ h
theorem lx_rk (hn0 : 1 ≤ n) (hn : n ≤ 6) (hM : M ≤ 729) (hw : lc_W w) (hc : lc_W c) {k : Nat} (hk : k ≤ 7) (post : Int32 → Prop) : ∀ t step left lim, step + t = k → step + left ≤ k → lim ≤ 100 → post (lc_e (lc_yr (lc_T (lc_al b d n) (lc_S w c n) M) k (lc_G (lc_al b d n) (lc_S w c n) M lim) (k - left))) → wX_ranked_22 post (nI k) (nI n) (nI M) w b c d (t + 1) (nI left) (lc_e (lc_G (lc_al b d n) (lc_S w c n) M lim)) (nI step) := by
  intro t
  induction t with
  | zero =>
    intro step left lim hs hle hl h
    refine br_t (nI_le (by omega) (by omega)) ?_
    have hT := lc_T_G (lc_al b d n) (lc_S w c n) M lim
    revert h hT
    generalize lc_G (lc_al b d n) (lc_S w c n) M lim = G
    intro h hT
    cases G with
    | zero => exact h
    | succ g =>
      rw [lc_yr_t (by omega)] at h
      exact h
  | succ t ih =>
    intro step left lim hs hle hl h
    have hT := lc_T_G (lc_al b d n) (lc_S w c n) M lim
    have hG := lc_G_le (lc_al b d n) (lc_S w c n) M lim
    revert h hT hG
    generalize lc_G (lc_al b d n) (lc_S w c n) M lim = G
    intro h hT hG
    refine br_f (nI_ge (by omega) (by omega)) (br_c (fun z => ?_) (fun z => ?_))
    · have e := (lc_e_n (by omega)).mp z
      subst e
      exact h
    · refine lx_count hn0 hn hM hw hc (by omega) _ ?_
      have hTM : lc_T (lc_al b d n) (lc_S w c n) M G ≤ M := lc_cnt_le _ M
      cases G with
      | zero => exact absurd rfl z
      | succ g =>
        by_cases hc2 : lc_T (lc_al b d n) (lc_S w c n) M (g + 1) ≤ left
        · refine br_t (nI_le hc2 (by omega)) (nm_r (pk_sub hc2) (lx_greatest (lim := g) hn0 hn hM hw hc (by omega) _ (nm_r (nI_1 step) (ih (step + 1) _ g (by omega) (by omega) (by omega) ?_))))
          rw [lc_yr_f (by omega), lc_yr_G (by omega)] at h
          rw [show k - (left - lc_T (lc_al b d n) (lc_S w c n) M (g + 1)) = k - left + lc_T (lc_al b d n) (lc_S w c n) M (g + 1) by omega]
          exact h
        · refine br_f (nI_ge (by omega) (by omega)) ?_
          rw [lc_yr_t (by omega)] at h
          exact h
theorem lx_ranked (hn0 : 1 ≤ n) (hn : n ≤ 6) (hM : M ≤ 729) (hw : lc_W w) (hc : lc_W c) {k : Nat} (hk : k ≤ 7) (post : Int32 → Prop) (h : post (lc_e (lc_yr (lc_T (lc_al b d n) (lc_S w c n) M) k 100 0))) : wpX_ranked post (nI n, nI M, w, b, c, d) (nI k) := by
  refine br_f (nI_pos (by omega)) (br_t (nI_le (b := 7) hk (by decide)) (lx_best hn0 hn hM hw hc _ ⟨k + 1, ?_⟩))
  refine lx_rk hn0 hn hM hw hc hk post k 0 k 100 (by omega) (by omega) (by omega) ?_
  rw [Nat.sub_self, ← lc_yr_G (by omega)]
  exact h
theorem lx_lb0 (hn0 : 1 ≤ n) (hn : n ≤ 6) (hM : M ≤ 729) (x : Int32) (post : Int32 → Prop) (h : post (-2)) (h0 : ∀ L, L < M → lc_al b d n L = false) : ∀ t m, m + t = M → wX_label_17 post (nI i) x (nI n) (nI M) w b c d (t + 1) (nI m) := by
  intro t
  induction t with
  | zero => exact fun m hm => br_t (nI_le (by omega) (by omega)) h
  | succ t ih =>
    intro m hm
    refine br_f (nI_ge (by omega) (by omega)) (lx_isAllowed hn0 hn (by omega) _ ?_)
    rw [h0 m (by omega)]
    exact br_t rfl (nm_r (nI_1 m) (ih (m + 1) (by omega)))
theorem lx_lb1 (hn0 : 1 ≤ n) (hn : n ≤ 6) (hM : M ≤ 729) (hw : lc_W w) (hc : lc_W c) (hi : i < n) {k : Nat} (hk : k < M) (hA : lc_al b d n k = true) (hF : ∀ L, L < k → lc_al b d n L = true → lc_S w c n L < lc_S w c n k) (post : Int32 → Prop) (h : post (nI (lc_d n k i))) : ∀ t m, m + t = M → m ≤ k → wX_label_17 post (nI i) (lc_e (lc_S w c n k + 1)) (nI n) (nI M) w b c d (t + 1) (nI m) := by
  intro t
  induction t with
  | zero => exact fun m hm hmk => absurd hmk (by omega)
  | succ t ih =>
    intro m hm hmk
    have hS := lc_S99 hw hc hn m
    have hS2 := lc_S99 hw hc hn k
    refine br_f (nI_ge (by omega) (by omega)) (lx_isAllowed hn0 hn (by omega) _ (br_c (fun z => ?_) (fun z => lx_sumOf hn0 hn hw hc (by omega) _ (br_c (fun y => ?_) (fun y => ?_)))))
    · refine nm_r (nI_1 m) (ih (m + 1) (by omega) ?_)
      by_cases e : m = k
      · rw [e, hA] at z
        exact absurd z (by decide)
      · omega
    · have e : lc_S w c n m + 1 = lc_S w c n k + 1 := (lc_e_eq (by omega) (by omega)).mp y
      have e2 : m = k := by
        by_cases e3 : m = k
        · exact e3
        · have := hF m (by omega) (lc_bt z)
          omega
      rw [e2]
      exact lx_labelAt hn hi (by omega) _ h
    · refine nm_r (nI_1 m) (ih (m + 1) (by omega) ?_)
      by_cases e : m = k
      · exact absurd ((lc_e_eq (by omega) (by omega)).mpr (by rw [e])) y
      · omega
end
end
section
/-! the component's questions, further; its arguments' tests -/
section
variable {n M i a : Nat} {w b c d : Nat → Int32}
theorem lx_bt (hn0 : 1 ≤ n) (hn : n ≤ 6) (hM : M ≤ 729) (hw : lc_W w) (hc : lc_W c) (hi : i < n) (ha : a < 3) (post : Int32 → Prop) (h : post (lc_e (lc_mx (lc_th (lc_al b d n) n i a) (lc_S w c n) M))) : ∀ t m, m + t = M → lc_mx (lc_th (lc_al b d n) n i a) (lc_S w c n) m ≤ 100 → wX_bestThrough_23 post (nI i) (nI a) (nI n) (nI M) w b c d (t + 1) (lc_e (lc_mx (lc_th (lc_al b d n) n i a) (lc_S w c n) m)) (nI m) := by
  intro t
  induction t with
  | zero =>
    intro m hm _
    have e : m = M := by omega
    rw [e]
    exact br_t (nI_le (by omega) (by omega)) h
  | succ t ih =>
    intro m hm hG
    have q := ih (m + 1) (by omega)
    have hS := lc_S99 hw hc hn m
    have hd := lc_d3 n m i
    refine br_f (nI_ge (by omega) (by omega)) (lx_labelAt (i := i) hn hi (by omega) _ (br_c (fun x => ?_) (fun x => ?_)))
    · have x2 : lc_d n m i = a := (nI_eq (by omega) (by omega)).mp x
      refine lx_isAllowed hn0 hn (by omega) _ (br_c (fun z => ?_) (fun z => ?_))
      · rw [lc_mx_f (lc_nA lc_th_t (lc_b0.mp z))] at q
        exact nm_r (nI_1 m) (q hG)
      · refine lx_sumOf hn0 hn hw hc (by omega) _ ?_
        by_cases hg : lc_S w c n m + 1 ≤ lc_mx (lc_th (lc_al b d n) n i a) (lc_S w c n) m
        · rw [lc_mx_g (by omega)] at q
          exact br_t ((lc_e_ge (by omega) (by omega)).mpr hg) (nm_r (nI_1 m) (q hG))
        · rw [lc_mx_t (lc_th_t.mpr ⟨lc_bt z, x2⟩) (by omega)] at q
          exact br_f (fun y => hg ((lc_e_ge (by omega) (by omega)).mp y)) (nm_r (nI_1 m) (q (by omega)))
    · rw [lc_mx_f (lc_nB lc_th_t (fun y => x (by rw [y])))] at q
      exact nm_r (nI_1 m) (q hG)
theorem lx_tt (hn0 : 1 ≤ n) (hn : n ≤ 6) (hM : M ≤ 729) (post : Int64 → Prop) (h : post (lc_tot (lc_al b d n) (lc_P w c n) M)) : ∀ t m, m + t = M → wX_total_4 post (nI n) (nI M) w b c d (t + 1) (lc_tot (lc_al b d n) (lc_P w c n) m) (nI m) := by
  intro t
  induction t with
  | zero =>
    intro m hm
    have e : m = M := by omega
    rw [e]
    exact br_t (nI_le (by omega) (by omega)) h
  | succ t ih =>
    intro m hm
    have q := ih (m + 1) (by omega)
    refine br_f (nI_ge (by omega) (by omega)) (lx_isAllowed hn0 hn (by omega) _ (br_c (fun z => ?_) (fun z => ?_)))
    · rw [lc_tot_f (lc_b0.mp z)] at q
      exact nm_r (nI_1 m) q
    · rw [lc_tot_t (lc_bt z)] at q
      exact lx_productOf hn0 hn (by omega) _ (nm_e (nm_r (nI_1 m) q))
theorem lx_total (hn0 : 1 ≤ n) (hn : n ≤ 6) (hM : M ≤ 729) (post : Int64 → Prop) (h : post (lc_tot (lc_al b d n) (lc_P w c n) M)) : wpX_total post (nI n, nI M, w, b, c, d) :=
  ⟨_, lx_tt hn0 hn hM post h M 0 (by omega)⟩
theorem lx_tr (hn0 : 1 ≤ n) (hn : n ≤ 6) (hM : M ≤ 729) (hi : i < n) (ha : a < 3) (post : Int64 → Prop) (h : post (lc_tot (lc_th (lc_al b d n) n i a) (lc_P w c n) M)) : ∀ t m, m + t = M → wX_through_22 post (nI i) (nI a) (nI n) (nI M) w b c d (t + 1) (lc_tot (lc_th (lc_al b d n) n i a) (lc_P w c n) m) (nI m) := by
  intro t
  induction t with
  | zero =>
    intro m hm
    have e : m = M := by omega
    rw [e]
    exact br_t (nI_le (by omega) (by omega)) h
  | succ t ih =>
    intro m hm
    have q := ih (m + 1) (by omega)
    have hd := lc_d3 n m i
    refine br_f (nI_ge (by omega) (by omega)) (lx_labelAt (i := i) hn hi (by omega) _ (br_c (fun x => ?_) (fun x => ?_)))
    · have x2 : lc_d n m i = a := (nI_eq (by omega) (by omega)).mp x
      refine lx_isAllowed hn0 hn (by omega) _ (br_c (fun z => ?_) (fun z => ?_))
      · rw [lc_tot_f (lc_nA lc_th_t (lc_b0.mp z))] at q
        exact nm_r (nI_1 m) q
      · rw [lc_tot_t (lc_th_t.mpr ⟨lc_bt z, x2⟩)] at q
        exact lx_productOf hn0 hn (by omega) _ (nm_e (nm_r (nI_1 m) q))
    · rw [lc_tot_f (lc_nB lc_th_t (fun y => x (by rw [y])))] at q
      exact nm_r (nI_1 m) q
theorem lx_tc (hn0 : 1 ≤ n) (hn : n ≤ 6) (hM : M ≤ 729) (hi : i < n - 1) (ha : a < 9) (post : Int64 → Prop) (h : post (lc_tot (lc_tc (lc_al b d n) n i a) (lc_P w c n) M)) : ∀ t m, m + t = M → wX_throughCouple_31 post (nI i) (nI a) (nI n) (nI M) w b c d (t + 1) (lc_tot (lc_tc (lc_al b d n) n i a) (lc_P w c n) m) (nI m) := by
  intro t
  induction t with
  | zero =>
    intro m hm
    have e : m = M := by omega
    rw [e]
    exact br_t (nI_le (by omega) (by omega)) h
  | succ t ih =>
    intro m hm
    have q := ih (m + 1) (by omega)
    have hd := lc_q9 n m i
    refine br_f (nI_ge (by omega) (by omega)) (lx_coupleAt hn hi (by omega) _ (br_c (fun x => ?_) (fun x => ?_)))
    · have x2 : lc_q n m i = a := (nI_eq (by omega) (by omega)).mp x
      refine lx_isAllowed hn0 hn (by omega) _ (br_c (fun z => ?_) (fun z => ?_))
      · rw [lc_tot_f (lc_nA lc_tc_t (lc_b0.mp z))] at q
        exact nm_r (nI_1 m) q
      · rw [lc_tot_t (lc_tc_t.mpr ⟨lc_bt z, x2⟩)] at q
        exact lx_productOf hn0 hn (by omega) _ (nm_e (nm_r (nI_1 m) q))
    · rw [lc_tot_f (lc_nB lc_tc_t (fun y => x (by rw [y])))] at q
      exact nm_r (nI_1 m) q
/-- an int outside 0 .. k-1 -/
def lc_out (x : Int32) (k : Nat) : Prop := x < 0 ∨ nI k ≤ x
theorem lc_io (x : Int32) {k : Nat} (hk : k < 2 ^ 31) : lc_out x k ∨ ∃ j, j < k ∧ x = nI j := by
  rcases pk_ix x hk with h | h | h
  · exact Or.inl (Or.inl h)
  · exact Or.inl (Or.inr h)
  · exact Or.inr h
/-- the test '0 <= x, x < k', in the three forms that are printed -/
theorem lc_o1 {x y : Int32} {k : Nat} (h : lc_out x k) (hy : y = nI k) {A B : Prop} (a : A) : (x < 0 → A) ∧ (¬ x < 0 → ((y ≤ x → A) ∧ (¬ y ≤ x → B))) := by
  subst hy
  by_cases z : x < 0
  · exact br_t z a
  · exact br_f z (br_t (h.resolve_left z) a)
theorem lc_i1 {y : Int32} {k j : Nat} (h : j < k) (hk : k < 2 ^ 31) (hy : y = nI k) {A B : Prop} (e : B) : (nI j < 0 → A) ∧ (¬ nI j < 0 → ((y ≤ nI j → A) ∧ (¬ y ≤ nI j → B))) := by
  subst hy
  exact br_f (nI_pos (by omega)) (br_f (nI_ge h hk) e)
theorem lc_o2 {x y : Int32} {k : Nat} (hk : k < 2 ^ 31) (h : lc_out x k) (hy : y = lc_f k) {A B : Prop} (a : A) : (x < 0 → A) ∧ (¬ x < 0 → ((y < x → A) ∧ (¬ y < x → B))) := by
  subst hy
  by_cases z : x < 0
  · exact br_t z a
  · exact br_f z (br_t ((lc_f_lt hk x).mpr (h.resolve_left z)) a)
theorem lc_i2 {y : Int32} {k j : Nat} (h : j < k) (hk : k < 2 ^ 31) (hy : y = lc_f k) {A B : Prop} (e : B) : (nI j < 0 → A) ∧ (¬ nI j < 0 → ((y < nI j → A) ∧ (¬ y < nI j → B))) := by
  subst hy
  exact br_f (nI_pos (by omega)) (br_f (fun z => nI_ge h hk ((lc_f_lt hk _).mp z)) e)
theorem lc_o3 {x y : Int32} {k : Nat} (hk : k < 2 ^ 31) (h : lc_out x k) (hy : y = lc_f k) {A B : Prop} (a : A) : (x < 0 → A) ∧ (¬ x < 0 → ((x ≤ y → B) ∧ (¬ x ≤ y → A))) := by
  subst hy
  by_cases z : x < 0
  · exact br_t z a
  · exact br_f z (br_f (Int32.not_le.mpr ((lc_f_lt hk x).mpr (h.resolve_left z))) a)
theorem lc_i3 {y : Int32} {k j : Nat} (h : j < k) (hk : k < 2 ^ 31) (hy : y = lc_f k) {A B : Prop} (e : B) : (nI j < 0 → A) ∧ (¬ nI j < 0 → ((nI j ≤ y → B) ∧ (¬ nI j ≤ y → A))) := by
  subst hy
  exact br_f (nI_pos (by omega)) (br_t ((lc_f_ge (by omega) hk).mpr h) e)
theorem lc_o4 {x y : Int32} {k : Nat} (h : lc_out x k) (hy : y = nI k) {A B : Prop} (a : A) : (x < 0 → A) ∧ (¬ x < 0 → ((x < y → B) ∧ (¬ x < y → A))) := by
  subst hy
  by_cases z : x < 0
  · exact br_t z a
  · exact br_f z (br_f (Int32.not_lt.mpr (h.resolve_left z)) a)
theorem lc_i4 {y : Int32} {k j : Nat} (h : j < k) (hk : k < 2 ^ 31) (hy : y = nI k) {A B : Prop} (e : B) : (nI j < 0 → A) ∧ (¬ nI j < 0 → ((nI j < y → B) ∧ (¬ nI j < y → A))) := by
  subst hy
  exact br_f (nI_pos (by omega)) (br_t (nI_lt h hk) e)
end
end
section
/-! the reference's private methods -/
section
variable {n L : Nat} {w b c d : Nat → Int32}
theorem ly_num (post : Int32 → Prop) (now ta : Nat → Int32) (hn : n ≤ 6) (h : post (nI (3 ^ n))) : ∀ t i, i + t = n → wY_labellings_4 post (nI n) w c b d now ta (t + 1) (nI (3 ^ i)) (nI i) := by
  intro t
  induction t with
  | zero =>
    intro i hi
    have e : i = n := by omega
    rw [e]
    exact br_t (nI_le (by omega) (by omega)) h
  | succ t ih =>
    intro i hi
    exact br_f (nI_ge (by omega) (by omega)) (nm_r ((pk_mul (3 ^ i) 3).trans (congrArg nI (Nat.pow_succ 3 i).symm)) (nm_r (nI_1 i) (ih (i + 1) (by omega))))
theorem ly_labellings {now ta : Nat → Int32} (hn : n ≤ 6) (post : Int32 → Prop) (h : post (nI (3 ^ n))) : wpY_labellings post (nI n, w, c, b, d, now, ta) :=
  ⟨_, ly_num post now ta hn h n 0 (by omega)⟩
/-- what the reference has written down -/
def lc_now (n L : Nat) (now : Nat → Int32) (t : Nat) : Prop := ∀ j, t ≤ j → j < n → now j = nI (lc_d n L j)
/-- what it has found good -/
def lc_gd (b d : Nat → Int32) (n L t : Nat) : Prop := (∀ j, t ≤ j → j < n → b (lc_p n L j) = 0) ∧ (∀ j, t ≤ j → j < n - 1 → d (lc_q n L j) = 0)
theorem lc_nb (g : Bool) : narrow .boolean (.int (lc_b g)) = .int (lc_b g) := by cases g <;> rfl
theorem lc_b_o {g : Bool} {P : Prop} (h : g = true ↔ P) (x : Prop) (hx : x) : g = true ↔ P ∧ x := by
  rw [h]
  exact ⟨fun p => ⟨p, hx⟩, fun p => p.1⟩
theorem lc_b_n {P : Prop} (x : Prop) (hx : ¬ x) : (false = true) ↔ P ∧ x := ⟨fun p => absurd p (by decide), fun p => absurd p.2 hx⟩
theorem ly_53 (hn0 : 1 ≤ n) (hn : n ≤ 6) {s : Nat} (hs : s < n) {now ta : Nat → Int32} (hN : lc_now n L now s) (post : Int32 → SY → Prop) (J : Int32 → Int32 → Int32 → (Nat → Int32) → (Nat → Int32) → (Nat → Int32) → (Nat → Int32) → (Nat → Int32) → (Nat → Int32) → Prop) (x : Int32) (g : Bool) (P : Prop) (hg : g = true ↔ P) (hJ : ∀ g' : Bool, (g' = true ↔ P ∧ (s < n - 1 → d (lc_q n L s) = 0)) → J x (lc_b g') (lc_f s) w c b d now ta) : wY_write_53 post J x (lc_b g) (nI s) (nI n) w c b d now ta := by
  unfold wY_write_53
  rw [lc_n1 hn0]
  by_cases h : s < n - 1
  · refine br_f (nI_ge h (by omega)) ?_
    rw [nI_1, nI_clamp (show s < 2 ^ 31 by omega), nI_clamp (show s + 1 < 2 ^ 31 by omega), hN s (by omega) hs, hN (s + 1) (by omega) (by omega), lc_qe, lc_qc]
    refine ⟨vp_in_nI (by omega) (by decide), vp_in_nI (by omega) (by decide), vp_in_nI (lc_q9 n L s) (by decide), br_c (fun z => nm_r (lc_f_m1 s) (hJ g (lc_b_o hg _ (fun _ => z)))) (fun z => nm_r (lc_f_m1 s) (hJ false (lc_b_n _ (fun y => z (y h)))))⟩
  · exact br_t (nI_le (by omega) (by omega)) (nm_r (lc_f_m1 s) (hJ g (lc_b_o hg _ (fun y => absurd y h))))
theorem lc_gd_s {s : Nat} (hs : s < n) : lc_gd b d n L s ↔ (lc_gd b d n L (s + 1) ∧ b (lc_p n L s) = 0) ∧ (s < n - 1 → d (lc_q n L s) = 0) := by
  unfold lc_gd
  constructor
  · rintro ⟨h1, h2⟩
    exact ⟨⟨⟨fun j hj => h1 j (by omega), fun j hj => h2 j (by omega)⟩, h1 s (by omega) hs⟩, h2 s (by omega)⟩
  · rintro ⟨⟨⟨h1, h2⟩, h3⟩, h4⟩
    refine ⟨fun j hj hjn => ?_, fun j hj hjn => ?_⟩
    · by_cases e : j = s
      · rw [e]; exact h3
      · exact h1 j (by omega) hjn
    · by_cases e : j = s
      · rw [e]; exact h4 (by omega)
      · exact h2 j (by omega) hjn
theorem ly_wr (hn0 : 1 ≤ n) (hn : n ≤ 6) (hL : L < 2 ^ 31) {ta : Nat → Int32} (post : Int32 → SY → Prop) (h : ∀ now, lc_now n L now 0 → post (lc_b (lc_al b d n L)) (nI n, w, c, b, d, now, ta)) : ∀ t now (g : Bool), t ≤ n → lc_now n L now t → (g = true ↔ lc_gd b d n L t) → wY_write_12 post (nI n) (t + 1) (nI (L / 3 ^ (n - t))) (lc_b g) (lc_f t) w c b d now ta := by
  intro t
  induction t with
  | zero =>
    intro now g _ hN hg
    have e : lc_al b d n L = g := by
      rw [Bool.eq_iff_iff, lc_al_t, hg]
      unfold lc_gd
      exact ⟨fun ⟨h1, h2⟩ => ⟨fun j _ => h1 j, fun j _ => h2 j⟩, fun ⟨h1, h2⟩ => ⟨fun j => h1 j (Nat.zero_le j), fun j => h2 j (Nat.zero_le j)⟩⟩
    refine br_t (by decide) ⟨lc_nb g, ?_⟩
    rw [← e]
    exact h now hN
  | succ s ih =>
    intro now g hs hN hg
    have hq : L / 3 ^ (n - (s + 1)) < 2 ^ 31 := Nat.lt_of_le_of_lt (Nat.div_le_self _ _) hL
    have e1 : L / 3 ^ (n - (s + 1)) % 3 = lc_d n L s := by
      unfold lc_d
      rw [show n - (s + 1) = n - 1 - s by omega]
    have e2 : L / 3 ^ (n - (s + 1)) / 3 = L / 3 ^ (n - s) := by
      rw [Nat.div_div_eq_div_mul, ← Nat.pow_succ, show (n - (s + 1)).succ = n - s by omega]
    have hN2 : lc_now n L (upd now s (nI (lc_d n L s))) s := by
      intro j hj hjn
      by_cases e : j = s
      · rw [e]; exact pk_us
      · rw [pk_un e]; exact hN j (by omega) hjn
    rw [show lc_f (s + 1) = nI s from rfl]
    refine br_f (nI_pos (by omega)) ⟨by decide, vp_in_nI (show s < 6 by omega) (by decide), nm_r (e' := upd now s (nI (lc_d n L s))) (by rw [nI_clamp (by omega), lc_rem3 hq, e1]) ⟨by decide, nm_r ((lc_div3 hq).trans (congrArg nI e2)) ?_⟩⟩
    rw [nI_clamp (show s < 2 ^ 31 by omega), pk_us, lc_pe, lc_pc hn (by omega)]
    refine ⟨vp_in_nI (show s < 6 by omega) (by decide), vp_in_nI (lc_p18 hn (by omega)) (by decide), br_c (fun z => ?_) (fun z => ?_)⟩
    · exact ly_53 hn0 hn (by omega) hN2 post _ _ g _ (lc_b_o hg _ z) (fun g' hg' => ih _ g' (by omega) hN2 (hg'.trans (lc_gd_s (by omega)).symm))
    · exact ly_53 hn0 hn (by omega) hN2 post _ _ false _ (lc_b_n (P := lc_gd b d n L (s + 1)) _ z) (fun g' hg' => ih _ g' (by omega) hN2 (hg'.trans (lc_gd_s (by omega)).symm))
theorem ly_write (hn0 : 1 ≤ n) (hn : n ≤ 6) (hL : L < 3 ^ n) {now ta : Nat → Int32} (post : Int32 → SY → Prop) (h : ∀ now, lc_now n L now 0 → post (lc_b (lc_al b d n L)) (nI n, w, c, b, d, now, ta)) : wpY_write post (nI n, w, c, b, d, now, ta) (nI L) := by
  have h3 : 3 ^ n ≤ 3 ^ 6 := Nat.pow_le_pow_right (by decide) hn
  have hL2 : L < 2 ^ 31 := by omega
  refine nm_r (e' := lc_f n) (by rw [Int32.sub_eq_add_neg]; exact lc_f_m1 n) ⟨n + 1, ?_⟩
  have q := ly_wr hn0 hn hL2 post h n now true (by omega) (fun j hj hjn => absurd hjn (by omega)) ⟨fun _ => ⟨fun j hj hjn => absurd hjn (by omega), fun j hj hjn => absurd hjn (by omega)⟩, fun _ => rfl⟩
  rw [Nat.sub_self, Nat.pow_zero, Nat.div_one] at q
  exact q
theorem ly_sm (hn : n ≤ 6) (hw : lc_W w) (hc : lc_W c) {now ta : Nat → Int32} (hN : lc_now n L now 0) (post : Int32 → Prop) (h : post (nI (lc_S w c n L))) : ∀ t i, i + t = n → wY_sum_4 post (nI n) w c b d now ta (t + 1) (nI (lc_sA w n L i + lc_sB c n L (i - 1))) (nI i) := by
  intro t
  induction t with
  | zero =>
    intro i hi
    have e : i = n := by omega
    rw [e]
    exact br_t (nI_le (by omega) (by omega)) h
  | succ t ih =>
    intro i hi
    have q := ih (i + 1) (by omega)
    refine br_f (nI_ge (by omega) (by omega)) ?_
    rw [nI_clamp (show i < 2 ^ 31 by omega), hN i (by omega) (by omega), lc_pe, lc_pc hn (by omega), (lc_w_e hw (lc_p n L i)).1]
    refine ⟨vp_in_nI (show i < 6 by omega) (by decide), vp_in_nI (lc_p18 hn (by omega)) (by decide), ?_⟩
    cases i with
    | zero =>
      refine br_t rfl (nm_r ?_ (nm_r (nI_1 0) q))
      rw [Int32.add_zero, nI_add]
      rfl
    | succ k =>
      refine br_f (nI_ne0 (by omega) (by omega)) ?_
      rw [nI_pred, nI_clamp (show k < 2 ^ 31 by omega), hN k (by omega) (by omega), lc_qe, lc_qc, (lc_w_e hc (lc_q n L k)).1]
      refine ⟨vp_in_nI (show k < 6 by omega) (by decide), vp_in_nI (show k + 1 < 6 by omega) (by decide), vp_in_nI (lc_q9 n L k) (by decide), nm_r ?_ (nm_r (nI_1 (k + 1)) q)⟩
      rw [nI_add, nI_add]
      refine congrArg nI ?_
      show lc_sA w n L (k + 1) + lc_sB c n L k + (lc_w w (lc_p n L (k + 1)) + lc_w c (lc_q n L k)) = (lc_sA w n L (k + 1) + lc_w w (lc_p n L (k + 1))) + (lc_sB c n L k + lc_w c (lc_q n L k))
      omega
theorem ly_sum (hn : n ≤ 6) (hw : lc_W w) (hc : lc_W c) {now ta : Nat → Int32} (hN : lc_now n L now 0) (post : Int32 → Prop) (h : post (nI (lc_S w c n L))) : wpY_sum post (nI n, w, c, b, d, now, ta) :=
  ⟨_, ly_sm hn hw hc hN post h n 0 (by omega)⟩
theorem lc_ring (p q x y : Int64) : p * q * x * y = (p * x) * (q * y) := by grind
theorem ly_pr (hn : n ≤ 6) {now ta : Nat → Int32} (hN : lc_now n L now 0) (post : Int64 → Prop) (h : post (lc_P w c n L)) : ∀ t i, i + t = n → wY_product_4 post (nI n) w c b d now ta (t + 1) (lc_pA w n L i * lc_pB c n L (i - 1)) (nI i) := by
  intro t
  induction t with
  | zero =>
    intro i hi
    have e : i = n := by omega
    rw [e]
    exact br_t (nI_le (by omega) (by omega)) h
  | succ t ih =>
    intro i hi
    have q := ih (i + 1) (by omega)
    refine br_f (nI_ge (by omega) (by omega)) ?_
    rw [nI_clamp (show i < 2 ^ 31 by omega), hN i (by omega) (by omega), lc_pe, lc_pc hn (by omega)]
    refine ⟨vp_in_nI (show i < 6 by omega) (by decide), vp_in_nI (lc_p18 hn (by omega)) (by decide), ?_⟩
    cases i with
    | zero =>
      refine br_t rfl (nm_r ?_ (nm_r (nI_1 0) q))
      exact (lc_ring _ _ _ _).trans rfl
    | succ k =>
      refine br_f (nI_ne0 (by omega) (by omega)) ?_
      rw [nI_pred, nI_clamp (show k < 2 ^ 31 by omega), hN k (by omega) (by omega), lc_qe, lc_qc]
      exact ⟨vp_in_nI (show k < 6 by omega) (by decide), vp_in_nI (show k + 1 < 6 by omega) (by decide), vp_in_nI (lc_q9 n L k) (by decide), nm_r (lc_ring _ _ _ _) (nm_r (nI_1 (k + 1)) q)⟩
theorem ly_product (hn : n ≤ 6) {now ta : Nat → Int32} (hN : lc_now n L now 0) (post : Int64 → Prop) (h : post (lc_P w c n L)) : wpY_product post (nI n, w, c, b, d, now, ta) := by
  refine ⟨n + 1, ?_⟩
  have q := ly_pr (b := b) (d := d) (ta := ta) hn hN post h n 0 (by omega)
  exact q
end
end
section
/-! the reference's questions -/
/-- the label at i of the labelling that is coded -/
def lc_lab (n i : Nat) : Nat → Int32
  | 0 => -2
  | k + 1 => nI (lc_d n k i)
/-- the tally over the labellings below m -/
def lc_ta (A : Nat → Bool) (S : Nat → Nat) (m : Nat) (ta : Nat → Int32) : Prop := ∀ s, s < 100 → ta s = nI (lc_T A S m (s + 1))
theorem lc_mx_b {S : Nat → Nat} (h : ∀ L, S L ≤ 99) (p : Nat → Bool) (m : Nat) : lc_mx p S m ≤ 100 := by
  rcases lc_mx_at p S m with e | ⟨L, _, _, e⟩
  · omega
  · have := h L
    omega
section
variable {n M i a : Nat} {w b c d : Nat → Int32}
theorem ly_alw (hn0 : 1 ≤ n) (hn : n ≤ 6) (hM : M = 3 ^ n) (h7 : M ≤ 729) {ta : Nat → Int32} (post : Int32 → SY → Prop) (h : ∀ now, post (nI (lc_cnt (lc_al b d n) M)) (nI n, w, c, b, d, now, ta)) : ∀ t m now, m + t = M → wY_allowed_9 post (nI M) (t + 1) (nI (lc_cnt (lc_al b d n) m)) (nI m) (nI n) w c b d now ta := by
  intro t
  induction t with
  | zero =>
    intro m now hm
    have e : m = M := by omega
    rw [e]
    exact br_t (nI_le (by omega) (by omega)) (h now)
  | succ t ih =>
    intro m now hm
    refine br_f (nI_ge (by omega) (by omega)) (ly_write hn0 hn (by omega) _ (fun now2 hN => ?_))
    have q := ih (m + 1) now2 (by omega)
    refine br_c (fun z => ?_) (fun z => ?_)
    · rw [lc_cnt_f (lc_b0.mp z)] at q
      exact nm_r (nI_1 m) q
    · rw [lc_cnt_t (lc_bt z)] at q
      exact nm_r (nI_1 _) (nm_r (nI_1 m) q)
theorem ly_allowed (hn0 : 1 ≤ n) (hn : n ≤ 6) (hM : M = 3 ^ n) (h7 : M ≤ 729) {now ta : Nat → Int32} (post : Int32 → SY → Prop) (h : ∀ now, post (nI (lc_cnt (lc_al b d n) M)) (nI n, w, c, b, d, now, ta)) : wpY_allowed post (nI n, w, c, b, d, now, ta) := by
  unfold wpY_allowed
  dsimp only
  refine ly_labellings hn _ ⟨M + 1, ?_⟩
  rw [← hM]
  exact ly_alw hn0 hn hM h7 post h M 0 now (by omega)
theorem ly_fs (hn0 : 1 ≤ n) (hn : n ≤ 6) (hM : M = 3 ^ n) (h7 : M ≤ 729) (hw : lc_W w) (hc : lc_W c) {ta : Nat → Int32} (post : Int32 → SY → Prop) (h : ∀ now, post (lc_f (lc_fk (lc_al b d n) (lc_S w c n) M)) (nI n, w, c, b, d, now, ta)) : ∀ t m now, m + t = M → wY_first_12 post (nI M) (t + 1) (lc_f (lc_fk (lc_al b d n) (lc_S w c n) m)) (lc_f (lc_mx (lc_al b d n) (lc_S w c n) m)) (nI m) (nI n) w c b d now ta := by
  intro t
  induction t with
  | zero =>
    intro m now hm
    have e : m = M := by omega
    rw [e]
    exact br_t (nI_le (by omega) (by omega)) (h now)
  | succ t ih =>
    intro m now hm
    have hS := lc_S99 hw hc hn m
    have hG := lc_mx_b (fun L => lc_S99 hw hc hn L) (lc_al b d n) m
    refine br_f (nI_ge (by omega) (by omega)) (ly_write hn0 hn (by omega) _ (fun now2 hN => ?_))
    have q := ih (m + 1) now2 (by omega)
    refine br_c (fun z => ?_) (fun z => ?_)
    · rw [lc_fk_f (lc_b0.mp z), lc_mx_f (lc_b0.mp z)] at q
      exact nm_r (nI_1 m) q
    · refine ly_sum hn hw hc hN _ ?_
      by_cases hg : lc_S w c n m + 1 ≤ lc_mx (lc_al b d n) (lc_S w c n) m
      · rw [lc_fk_g (by omega), lc_mx_g (by omega)] at q
        exact br_t ((lc_f_ge (by omega) (by omega)).mpr hg) (nm_r (nI_1 m) q)
      · rw [lc_fk_t (lc_bt z) (by omega), lc_mx_t (lc_bt z) (by omega)] at q
        exact br_f (fun y => hg ((lc_f_ge (by omega) (by omega)).mp y)) (nm_r (nI_1 m) q)
theorem ly_first (hn0 : 1 ≤ n) (hn : n ≤ 6) (hM : M = 3 ^ n) (h7 : M ≤ 729) (hw : lc_W w) (hc : lc_W c) {now ta : Nat → Int32} (post : Int32 → SY → Prop) (h : ∀ now, post (lc_f (lc_fk (lc_al b d n) (lc_S w c n) M)) (nI n, w, c, b, d, now, ta)) : wpY_first post (nI n, w, c, b, d, now, ta) := by
  unfold wpY_first
  dsimp only
  refine ly_labellings hn _ ⟨M + 1, ?_⟩
  rw [← hM]
  exact ly_fs hn0 hn hM h7 hw hc post h M 0 now (by omega)
theorem ly_best (hn0 : 1 ≤ n) (hn : n ≤ 6) (hM : M = 3 ^ n) (h7 : M ≤ 729) (hw : lc_W w) (hc : lc_W c) {now ta : Nat → Int32} (post : Int32 → SY → Prop) (h : ∀ now, post (lc_e (lc_mx (lc_al b d n) (lc_S w c n) M)) (nI n, w, c, b, d, now, ta)) : wpY_best post (nI n, w, c, b, d, now, ta) := by
  unfold wpY_best
  dsimp only
  refine ly_first hn0 hn hM h7 hw hc _ (fun now2 => ?_)
  dsimp only
  rcases lc_fk_s (lc_al b d n) (lc_S w c n) M with ⟨e1, e2⟩ | ⟨k, hk, e1, _, e2, _⟩
  · rw [e1]
    rw [e2] at h
    exact br_f (by decide) (h now2)
  · rw [e1]
    rw [e2] at h
    refine br_t (nI_pos' (by omega)) (ly_write hn0 hn (by omega) _ (fun now3 hN => ?_))
    exact ly_sum hn hw hc hN _ (h now3)
theorem ly_label (hn0 : 1 ≤ n) (hn : n ≤ 6) (hM : M = 3 ^ n) (h7 : M ≤ 729) (hw : lc_W w) (hc : lc_W c) (hi : i < n) {now ta : Nat → Int32} (post : Int32 → SY → Prop) (h : ∀ now, post (lc_lab n i (lc_fk (lc_al b d n) (lc_S w c n) M)) (nI n, w, c, b, d, now, ta)) : wpY_label post (nI n, w, c, b, d, now, ta) (nI i) := by
  unfold wpY_label
  dsimp only
  refine lc_i1 hi (by omega) rfl (br_f (by decide) (ly_first hn0 hn hM h7 hw hc _ (fun now2 => ?_)))
  dsimp only
  rcases lc_fk_s (lc_al b d n) (lc_S w c n) M with ⟨e1, e2⟩ | ⟨k, hk, e1, _, e2, _⟩
  · rw [e1] at h ⊢
    exact br_f (by decide) (h now2)
  · rw [e1] at h ⊢
    refine br_t (nI_pos' (by omega)) (ly_write hn0 hn (by omega) _ (fun now3 hN => ?_))
    dsimp only
    rw [nI_clamp (show i < 2 ^ 31 by omega), hN i (by omega) hi]
    exact ⟨vp_in_nI (by omega) (by decide), h now3⟩
theorem ly_c28 (hn0 : 1 ≤ n) (hn : n ≤ 6) (hM : M = 3 ^ n) (h7 : M ≤ 729) (hw : lc_W w) (hc : lc_W c) (post : SY → Prop) (h : ∀ now ta, lc_ta (lc_al b d n) (lc_S w c n) M ta → post (nI n, w, c, b, d, now, ta)) : ∀ t m now ta, m + t = M → lc_ta (lc_al b d n) (lc_S w c n) m ta → wY_count_28 post (nI M) (t + 1) (nI m) (nI n) w c b d now ta := by
  intro t
  induction t with
  | zero =>
    intro m now ta hm hT
    have e : m = M := by omega
    rw [e] at hT ⊢
    exact br_t (nI_le (by omega) (by omega)) (h now ta hT)
  | succ t ih =>
    intro m now ta hm hT
    have hS := lc_S99 hw hc hn m
    refine br_f (nI_ge (by omega) (by omega)) (ly_write hn0 hn (by omega) _ (fun now2 hN => br_c (fun z => ?_) (fun z => ?_)))
    · refine nm_r (nI_1 m) (ih (m + 1) now2 ta (by omega) (fun s hs => ?_))
      rw [hT s hs]
      unfold lc_T
      rw [lc_cnt_f (lc_nA lc_tp_t (lc_b0.mp z))]
    · refine ly_sum hn hw hc hN _ ?_
      rw [nI_clamp (show lc_S w c n m < 2 ^ 31 by omega)]
      refine ⟨vp_in_nI (by omega) (by decide), vp_in_nI (by omega) (by decide), nm_e (nm_r (nI_1 m) (ih (m + 1) now2 _ (by omega) (fun s hs => ?_)))⟩
      by_cases e : s = lc_S w c n m
      · subst e
        rw [pk_us, hT _ hs, nI_1]
        unfold lc_T
        rw [lc_cnt_t (lc_tp_t.mpr ⟨lc_bt z, rfl⟩)]
      · rw [pk_un e, hT s hs]
        unfold lc_T
        rw [lc_cnt_f (lc_nB lc_tp_t (fun y => e (by omega)))]
theorem ly_c7 (hn0 : 1 ≤ n) (hn : n ≤ 6) (hM : M = 3 ^ n) (h7 : M ≤ 729) (hw : lc_W w) (hc : lc_W c) (post : SY → Prop) (h : ∀ now ta, lc_ta (lc_al b d n) (lc_S w c n) M ta → post (nI n, w, c, b, d, now, ta)) (now : Nat → Int32) : ∀ t s ta, s + t = 100 → (∀ j, j < s → ta j = 0) → wY_count_7 post (nI M) (nI n) (t + 1) (nI s) w c b d now ta := by
  intro t
  induction t with
  | zero =>
    intro s ta hs hz
    exact br_t (nI_le (a := 100) (by omega) (by omega)) ⟨_, ly_c28 hn0 hn hM h7 hw hc post h M 0 now ta (by omega) (fun j hj => hz j (by omega))⟩
  | succ t ih =>
    intro s ta hs hz
    refine br_f (nI_ge (b := 100) (by omega) (by decide)) ⟨vp_in_nI (by omega) (by decide), nm_e (nm_r (nI_1 s) (ih (s + 1) _ (by omega) (fun j hj => ?_)))⟩
    rw [nI_clamp (show s < 2 ^ 31 by omega)]
    by_cases e : j = s
    · rw [e]
      exact pk_us
    · rw [pk_un e]
      exact hz j (by omega)
theorem ly_count (hn0 : 1 ≤ n) (hn : n ≤ 6) (hM : M = 3 ^ n) (h7 : M ≤ 729) (hw : lc_W w) (hc : lc_W c) {now ta : Nat → Int32} (post : SY → Prop) (h : ∀ now ta, lc_ta (lc_al b d n) (lc_S w c n) M ta → post (nI n, w, c, b, d, now, ta)) : wpY_count post (nI n, w, c, b, d, now, ta) := by
  unfold wpY_count
  dsimp only
  refine ly_labellings hn _ ⟨100 + 1, ?_⟩
  rw [← hM]
  exact ly_c7 hn0 hn hM h7 hw hc post h now 100 0 ta (by omega) (fun j hj => absurd hj (Nat.not_lt_zero j))
theorem ly_bc (h7 : M ≤ 729) {now ta : Nat → Int32} (hT : lc_ta (lc_al b d n) (lc_S w c n) M ta) (post : Int32 → SY → Prop) : ∀ t, t ≤ 100 → post (nI (lc_bc (lc_T (lc_al b d n) (lc_S w c n) M) t)) (nI n, w, c, b, d, now, ta) → wY_bestCount_7 post (nI n) w c b d now ta (t + 1) (lc_f t) := by
  intro t
  induction t with
  | zero => exact fun _ h => br_t (by decide) h
  | succ s ih =>
    intro hs h
    have hle : lc_T (lc_al b d n) (lc_S w c n) M (s + 1) ≤ M := lc_cnt_le _ M
    rw [show lc_f (s + 1) = nI s from rfl]
    refine br_f (nI_pos (by omega)) ?_
    rw [nI_clamp (show s < 2 ^ 31 by omega), hT s (by omega)]
    refine ⟨vp_in_nI (by omega) (by decide), ?_⟩
    by_cases e : lc_T (lc_al b d n) (lc_S w c n) M (s + 1) = 0
    · rw [show lc_bc (lc_T (lc_al b d n) (lc_S w c n) M) (s + 1) = lc_bc (lc_T (lc_al b d n) (lc_S w c n) M) s from if_pos e] at h
      exact br_t (nI_le (b := 0) (by omega) (by decide)) (nm_r (lc_f_m1 s) (ih (by omega) h))
    · rw [show lc_bc (lc_T (lc_al b d n) (lc_S w c n) M) (s + 1) = lc_T (lc_al b d n) (lc_S w c n) M (s + 1) from if_neg e] at h
      exact br_f (nI_nle (by omega) (by omega)) ⟨vp_in_nI (by omega) (by decide), h⟩
theorem ly_bestCount (hn0 : 1 ≤ n) (hn : n ≤ 6) (hM : M = 3 ^ n) (h7 : M ≤ 729) (hw : lc_W w) (hc : lc_W c) {now ta : Nat → Int32} (post : Int32 → SY → Prop) (h : ∀ now ta, post (nI (lc_T (lc_al b d n) (lc_S w c n) M (lc_G (lc_al b d n) (lc_S w c n) M 100))) (nI n, w, c, b, d, now, ta)) : wpY_bestCount post (nI n, w, c, b, d, now, ta) := by
  unfold wpY_bestCount
  dsimp only
  refine ly_count hn0 hn hM h7 hw hc _ (fun now2 ta2 hT => ?_)
  refine ⟨100 + 1, ly_bc h7 hT post 100 (by omega) ?_⟩
  rw [lc_bc_G]
  exact h now2 ta2
theorem ly_rk (h7 : M ≤ 729) {now ta : Nat → Int32} (hT : lc_ta (lc_al b d n) (lc_S w c n) M ta) {k : Nat} (hk : k ≤ 7) (post : Int32 → SY → Prop) : ∀ t bf, t ≤ 100 → bf ≤ k → post (lc_e (lc_yr (lc_T (lc_al b d n) (lc_S w c n) M) k t bf)) (nI n, w, c, b, d, now, ta) → wY_ranked_21 post (nI k) (nI n) w c b d now ta (t + 1) (nI bf) (lc_f t) := by
  intro t
  induction t with
  | zero => exact fun bf _ _ h => br_t (by decide) h
  | succ s ih =>
    intro bf hs hb h
    have hle : lc_T (lc_al b d n) (lc_S w c n) M (s + 1) ≤ M := lc_cnt_le _ M
    rw [show lc_f (s + 1) = nI s from rfl]
    refine br_f (nI_pos (by omega)) ?_
    rw [nI_clamp (show s < 2 ^ 31 by omega), hT s (by omega)]
    refine ⟨vp_in_nI (by omega) (by decide), nm_r (nI_add _ _) ?_⟩
    by_cases e : bf + lc_T (lc_al b d n) (lc_S w c n) M (s + 1) ≤ k
    · rw [lc_yr_f e] at h
      exact br_t (nI_le e (by omega)) (nm_r (lc_f_m1 s) (ih _ (by omega) e h))
    · rw [lc_yr_t (by omega)] at h
      exact br_f (nI_ge (by omega) (by omega)) h
theorem ly_ranked (hn0 : 1 ≤ n) (hn : n ≤ 6) (hM : M = 3 ^ n) (h7 : M ≤ 729) (hw : lc_W w) (hc : lc_W c) {k : Nat} (hk : k ≤ 7) {now ta : Nat → Int32} (post : Int32 → SY → Prop) (h : ∀ now ta, post (lc_e (lc_yr (lc_T (lc_al b d n) (lc_S w c n) M) k 100 0)) (nI n, w, c, b, d, now, ta)) : wpY_ranked post (nI n, w, c, b, d, now, ta) (nI k) := by
  refine br_f (nI_pos (by omega)) (br_t (nI_le (b := 7) hk (by decide)) (ly_count hn0 hn hM h7 hw hc _ (fun now2 ta2 hT => ?_)))
  exact ⟨100 + 1, ly_rk h7 hT hk post 100 0 (by omega) (by omega) (h now2 ta2)⟩
theorem ly_bt (hn0 : 1 ≤ n) (hn : n ≤ 6) (hM : M = 3 ^ n) (h7 : M ≤ 729) (hw : lc_W w) (hc : lc_W c) (hi : i < n) (ha : a < 3) {ta : Nat → Int32} (post : Int32 → SY → Prop) (h : ∀ now, post (lc_e (lc_mx (lc_th (lc_al b d n) n i a) (lc_S w c n) M)) (nI n, w, c, b, d, now, ta)) : ∀ t m now, m + t = M → wY_bestThrough_30 post (nI i) (nI a) (nI M) (t + 1) (lc_e (lc_mx (lc_th (lc_al b d n) n i a) (lc_S w c n) m)) (nI m) (nI n) w c b d now ta := by
  intro t
  induction t with
  | zero =>
    intro m now hm
    have e : m = M := by omega
    rw [e]
    exact br_t (nI_le (by omega) (by omega)) (h now)
  | succ t ih =>
    intro m now hm
    have hS := lc_S99 hw hc hn m
    have hd := lc_d3 n m i
    have hG := lc_mx_b (fun L => lc_S99 hw hc hn L) (lc_th (lc_al b d n) n i a) m
    refine br_f (nI_ge (by omega) (by omega)) (ly_write hn0 hn (by omega) _ (fun now2 hN => ?_))
    have q := ih (m + 1) now2 (by omega)
    refine br_c (fun z => ?_) (fun z => ?_)
    · rw [lc_mx_f (lc_nA lc_th_t (lc_b0.mp z))] at q
      exact nm_r (nI_1 m) q
    · rw [nI_clamp (show i < 2 ^ 31 by omega), hN i (by omega) hi]
      refine ⟨vp_in_nI (by omega) (by decide), br_c (fun x => ?_) (fun x => ?_)⟩
      · have x2 : lc_d n m i = a := (nI_eq (by omega) (by omega)).mp x
        refine ly_sum hn hw hc hN _ ?_
        by_cases hg : lc_S w c n m + 1 ≤ lc_mx (lc_th (lc_al b d n) n i a) (lc_S w c n) m
        · rw [lc_mx_g (by omega)] at q
          exact br_t ((lc_e_ge (by omega) (by omega)).mpr hg) (nm_r (nI_1 m) q)
        · rw [lc_mx_t (lc_th_t.mpr ⟨lc_bt z, x2⟩) (by omega)] at q
          exact br_f (fun y => hg ((lc_e_ge (by omega) (by omega)).mp y)) (nm_r (nI_1 m) q)
      · rw [lc_mx_f (lc_nB lc_th_t (fun y => x (by rw [y])))] at q
        exact nm_r (nI_1 m) q
theorem ly_tt (hn0 : 1 ≤ n) (hn : n ≤ 6) (hM : M = 3 ^ n) (h7 : M ≤ 729) {ta : Nat → Int32} (post : Int64 → SY → Prop) (h : ∀ now, post (lc_tot (lc_al b d n) (lc_P w c n) M) (nI n, w, c, b, d, now, ta)) : ∀ t m now, m + t = M → wY_total_10 post (nI M) (t + 1) (lc_tot (lc_al b d n) (lc_P w c n) m) (nI m) (nI n) w c b d now ta := by
  intro t
  induction t with
  | zero =>
    intro m now hm
    have e : m = M := by omega
    rw [e]
    exact br_t (nI_le (by omega) (by omega)) (h now)
  | succ t ih =>
    intro m now hm
    refine br_f (nI_ge (by omega) (by omega)) (ly_write hn0 hn (by omega) _ (fun now2 hN => ?_))
    have q := ih (m + 1) now2 (by omega)
    refine br_c (fun z => ?_) (fun z => ?_)
    · rw [lc_tot_f (lc_b0.mp z)] at q
      exact nm_r (nI_1 m) q
    · rw [lc_tot_t (lc_bt z)] at q
      exact ly_product hn hN _ (nm_e (nm_r (nI_1 m) q))
theorem ly_total (hn0 : 1 ≤ n) (hn : n ≤ 6) (hM : M = 3 ^ n) (h7 : M ≤ 729) {now ta : Nat → Int32} (post : Int64 → SY → Prop) (h : ∀ now, post (lc_tot (lc_al b d n) (lc_P w c n) M) (nI n, w, c, b, d, now, ta)) : wpY_total post (nI n, w, c, b, d, now, ta) := by
  unfold wpY_total
  dsimp only
  refine ly_labellings hn _ ⟨M + 1, ?_⟩
  rw [← hM]
  exact ly_tt hn0 hn hM h7 post h M 0 now (by omega)
theorem ly_tr (hn0 : 1 ≤ n) (hn : n ≤ 6) (hM : M = 3 ^ n) (h7 : M ≤ 729) (hi : i < n) (ha : a < 3) {ta : Nat → Int32} (post : Int64 → SY → Prop) (h : ∀ now, post (lc_tot (lc_th (lc_al b d n) n i a) (lc_P w c n) M) (nI n, w, c, b, d, now, ta)) : ∀ t m now, m + t = M → wY_through_29 post (nI i) (nI a) (nI M) (t + 1) (lc_tot (lc_th (lc_al b d n) n i a) (lc_P w c n) m) (nI m) (nI n) w c b d now ta := by
  intro t
  induction t with
  | zero =>
    intro m now hm
    have e : m = M := by omega
    rw [e]
    exact br_t (nI_le (by omega) (by omega)) (h now)
  | succ t ih =>
    intro m now hm
    have hd := lc_d3 n m i
    refine br_f (nI_ge (by omega) (by omega)) (ly_write hn0 hn (by omega) _ (fun now2 hN => ?_))
    have q := ih (m + 1) now2 (by omega)
    refine br_c (fun z => ?_) (fun z => ?_)
    · rw [lc_tot_f (lc_nA lc_th_t (lc_b0.mp z))] at q
      exact nm_r (nI_1 m) q
    · rw [nI_clamp (show i < 2 ^ 31 by omega), hN i (by omega) hi]
      refine ⟨vp_in_nI (by omega) (by decide), br_c (fun x => ?_) (fun x => ?_)⟩
      · have x2 : lc_d n m i = a := (nI_eq (by omega) (by omega)).mp x
        rw [lc_tot_t (lc_th_t.mpr ⟨lc_bt z, x2⟩)] at q
        exact ly_product hn hN _ (nm_e (nm_r (nI_1 m) q))
      · rw [lc_tot_f (lc_nB lc_th_t (fun y => x (by rw [y])))] at q
        exact nm_r (nI_1 m) q
theorem ly_tc (hn0 : 1 ≤ n) (hn : n ≤ 6) (hM : M = 3 ^ n) (h7 : M ≤ 729) (hi : i < n - 1) (ha : a < 9) {ta : Nat → Int32} (post : Int64 → SY → Prop) (h : ∀ now, post (lc_tot (lc_tc (lc_al b d n) n i a) (lc_P w c n) M) (nI n, w, c, b, d, now, ta)) : ∀ t m now, m + t = M → wY_throughCouple_37 post (nI i) (nI a) (nI M) (t + 1) (lc_tot (lc_tc (lc_al b d n) n i a) (lc_P w c n) m) (nI m) (nI n) w c b d now ta := by
  intro t
  induction t with
  | zero =>
    intro m now hm
    have e : m = M := by omega
    rw [e]
    exact br_t (nI_le (by omega) (by omega)) (h now)
  | succ t ih =>
    intro m now hm
    have hd := lc_q9 n m i
    refine br_f (nI_ge (by omega) (by omega)) (ly_write hn0 hn (by omega) _ (fun now2 hN => ?_))
    have q := ih (m + 1) now2 (by omega)
    refine br_c (fun z => ?_) (fun z => ?_)
    · rw [lc_tot_f (lc_nA lc_tc_t (lc_b0.mp z))] at q
      exact nm_r (nI_1 m) q
    · rw [nI_1 i, nI_clamp (show i < 2 ^ 31 by omega), nI_clamp (show i + 1 < 2 ^ 31 by omega), hN i (by omega) (by omega), hN (i + 1) (by omega) (by omega), lc_qe]
      refine ⟨vp_in_nI (by omega) (by decide), vp_in_nI (by omega) (by decide), br_c (fun x => ?_) (fun x => ?_)⟩
      · have x2 : lc_q n m i = a := (nI_eq (by omega) (by omega)).mp x
        rw [lc_tot_t (lc_tc_t.mpr ⟨lc_bt z, x2⟩)] at q
        exact ly_product hn hN _ (nm_e (nm_r (nI_1 m) q))
      · rw [lc_tot_f (lc_nB lc_tc_t (fun y => x (by rw [y])))] at q
        exact nm_r (nI_1 m) q
end
end
section
/-! arguments' tests at their methods' names; the label question; the constructors -/
section
variable {n M i a : Nat} {x m : Int32} {w b c d now ta : Nat → Int32} {post : Int32 → Prop}
theorem lx_pos_f (h : lc_out x n) (hp : post 0) : wpX_isPosition post (nI n, m, w, b, c, d) x := lc_o1 h rfl hp
theorem lx_pos_t (hn : n ≤ 6) (hi : i < n) (hp : post 1) : wpX_isPosition post (nI n, m, w, b, c, d) (nI i) := lc_i1 hi (by omega) rfl hp
theorem lx_lab_f (h : lc_out x 3) (hp : post 0) : wpX_isLabel post x := lc_o1 h rfl hp
theorem lx_lab_t (ha : a < 3) (hp : post 1) : wpX_isLabel post (nI a) := lc_i1 ha (by omega) rfl hp
theorem lx_wt_f (h : lc_out x 10) (hp : post 0) : wpX_isWeight post x := lc_o2 (by decide) h rfl hp
theorem lx_wt_t (ha : a < 10) (hp : post 1) : wpX_isWeight post (nI a) := lc_i2 ha (by decide) rfl hp
theorem ly_pos_f (h : lc_out x n) (hp : post 0) : wpY_isPosition post (nI n, w, c, b, d, now, ta) x := lc_o1 h rfl hp
theorem ly_pos_t (hn : n ≤ 6) (hi : i < n) (hp : post 1) : wpY_isPosition post (nI n, w, c, b, d, now, ta) (nI i) := lc_i1 hi (by omega) rfl hp
theorem ly_lab_f (h : lc_out x 3) (hp : post 0) : wpY_isLabel post (nI n, w, c, b, d, now, ta) x := lc_o2 (by decide) h rfl hp
theorem ly_lab_t (ha : a < 3) (hp : post 1) : wpY_isLabel post (nI n, w, c, b, d, now, ta) (nI a) := lc_i2 ha (by decide) rfl hp
theorem lc_3 (i a : Nat) : 3 * nI i + nI a = nI (3 * i + a) := by
  rw [← nI_add, ← pk_mul]
  rfl
theorem lc_n2 (h1 : 1 ≤ n) (h6 : n ≤ 6) : nI n - 2 = lc_f (n - 1) := by
  have h : n = 1 ∨ n = 2 ∨ n = 3 ∨ n = 4 ∨ n = 5 ∨ n = 6 := by omega
  rcases h with rfl | rfl | rfl | rfl | rfl | rfl <;> decide +kernel
theorem lx_label (hn0 : 1 ≤ n) (hn : n ≤ 6) (hM : M ≤ 729) (hw : lc_W w) (hc : lc_W c) (hi : i < n) (post : Int32 → Prop) (h : post (lc_lab n i (lc_fk (lc_al b d n) (lc_S w c n) M))) : wpX_label post (nI n, nI M, w, b, c, d) (nI i) := by
  unfold wpX_label
  dsimp only
  refine lx_pos_t hn hi (br_f (by decide) (lx_best hn0 hn hM hw hc _ ?_))
  rw [lc_G_mx (fun L => lc_S99 hw hc hn L)]
  rcases lc_fk_s (lc_al b d n) (lc_S w c n) M with ⟨e1, e2⟩ | ⟨k, hk, e1, hA, e2, hF⟩
  · rw [e1] at h
    exact ⟨_, lx_lb0 hn0 hn hM _ post h (lc_mx_0 e2) M 0 (by omega)⟩
  · rw [e1] at h
    rw [e2]
    exact ⟨_, lx_lb1 hn0 hn hM hw hc hi hk hA hF post h M 0 (by omega) (by omega)⟩
/-- ones at the first places -/
def lc_one : Nat → Nat → Int32
  | 0 => fun _ => 0
  | k + 1 => upd (lc_one k) k 1
theorem lc_one_W : ∀ k, lc_W (lc_one k) := by
  intro k
  induction k with
  | zero => exact fun j => ⟨0, by decide, rfl⟩
  | succ k ih => exact lc_W_upd ih k 1 (by decide)
theorem lx_i78 (post : SX → Prop) (p l : Int32) (h : post (p, l, w, b, lc_one 9, d)) : ∀ t s, s + t = 9 → wX_init_78 post p l (t + 1) (nI s) w b (lc_one s) d := by
  intro t
  induction t with
  | zero =>
    intro s hs
    have e : s = 9 := by omega
    rw [e]
    exact br_t (by decide) h
  | succ t ih =>
    intro s hs
    refine br_f (nI_ge (b := 9) (by omega) (by decide)) ⟨vp_in_nI (by omega) (by decide), nm_r ?_ (nm_r (nI_1 s) (ih (s + 1) (by omega)))⟩
    rw [nI_clamp (show s < 2 ^ 31 by omega)]
    rfl
theorem lx_i57 (post : SX → Prop) (p l : Int32) (h : post (p, l, lc_one 18, b, lc_one 9, d)) : ∀ t s, s + t = 18 → wX_init_57 post p l (t + 1) (nI s) (lc_one s) b (lc_one 0) d := by
  intro t
  induction t with
  | zero =>
    intro s hs
    have e : s = 18 := by omega
    rw [e]
    exact br_t (by decide) ⟨_, lx_i78 post p l h 9 0 (by omega)⟩
  | succ t ih =>
    intro s hs
    refine br_f (nI_ge (b := 18) (by omega) (by decide)) ⟨vp_in_nI (by omega) (by decide), nm_r ?_ (nm_r (nI_1 s) (ih (s + 1) (by omega)))⟩
    rw [nI_clamp (show s < 2 ^ 31 by omega)]
    rfl
theorem ly_i100 (post : SY → Prop) (p : Int32) (h : post (p, w, lc_one 9, b, d, now, ta)) : ∀ t s, s + t = 9 → wY_init_100 post p (t + 1) (nI s) w (lc_one s) b d now ta := by
  intro t
  induction t with
  | zero =>
    intro s hs
    have e : s = 9 := by omega
    rw [e]
    exact br_t (by decide) h
  | succ t ih =>
    intro s hs
    refine br_f (nI_ge (b := 9) (by omega) (by decide)) ⟨vp_in_nI (by omega) (by decide), nm_r ?_ (nm_r (nI_1 s) (ih (s + 1) (by omega)))⟩
    rw [nI_clamp (show s < 2 ^ 31 by omega)]
    rfl
theorem ly_i79 (post : SY → Prop) (p : Int32) (h : post (p, lc_one 18, lc_one 9, b, d, now, ta)) : ∀ t s, s + t = 18 → wY_init_79 post p (t + 1) (nI s) (lc_one s) (lc_one 0) b d now ta := by
  intro t
  induction t with
  | zero =>
    intro s hs
    have e : s = 18 := by omega
    rw [e]
    exact br_t (by decide) ⟨_, ly_i100 post p h 9 0 (by omega)⟩
  | succ t ih =>
    intro s hs
    refine br_f (nI_ge (b := 18) (by omega) (by decide)) ⟨vp_in_nI (by omega) (by decide), nm_r ?_ (nm_r (nI_1 s) (ih (s + 1) (by omega)))⟩
    rw [nI_clamp (show s < 2 ^ 31 by omega)]
    rfl
theorem lx_ini (post : SX → Prop) (p : Int32) (hp : p = nI n) (hn : n ≤ 6) (h : post (nI n, nI (3 ^ n), lc_one 18, lc_one 0, lc_one 9, lc_one 0)) : wpX_numberOfLabellings (fun r => ∃ n57 : Nat, wX_init_57 post p r n57 0 (fun _ => 0) (fun _ => 0) (fun _ => 0) (fun _ => 0)) p := by
  subst hp
  exact lx_numberOf _ hn ⟨_, lx_i57 post _ _ h 18 0 (by omega)⟩
end
end
section
/-! what is owed -/
/-- both sides hold the same four tables; the weights are 0 .. 9; 1 .. 6 positions; what the reference writes down for itself is free -/
def i_Rel (_ : Nat) (u : SX) (v : SY) : Prop := ∃ (n : Nat) (w b c d now ta : Nat → Int32), 1 ≤ n ∧ n ≤ 6 ∧ lc_W w ∧ lc_W c ∧ u = (nI n, nI (3 ^ n), w, b, c, d) ∧ v = (nI n, w, c, b, d, now, ta)
theorem lc_729 {n : Nat} (h : n ≤ 6) : 3 ^ n ≤ 729 := Nat.pow_le_pow_right (n := 3) (by decide) h
theorem i_up {k : Nat} {u : SX} {v : SY} (h : i_Rel k u v) : i_Rel (k + 4) u v := h
theorem i_vc0 (k0 : Int32) : wpX_init (fun u => wpY_init (fun v => i_Rel 1 u v) k0) k0 := by
  by_cases h1 : 1 ≤ k0
  · by_cases h6 : k0 ≤ 6
    · obtain ⟨n, hn, e⟩ := nI_of (x := k0) (Int32.not_lt.mpr (Int32.le_trans (by decide) h1))
      have g1 : 1 ≤ n := by
        rw [e] at h1
        exact (nI_leI (a := 1) (by decide) hn).mp h1
      have g6 : n ≤ 6 := by
        rw [e] at h6
        exact (nI_leI (b := 6) hn (by decide)).mp h6
      refine br_t h1 (br_t h6 (lx_ini _ k0 e g6 (br_t h1 (br_t h6 ⟨_, ly_i79 _ k0 ?_ 18 0 (by omega)⟩))))
      exact ⟨n, lc_one 18, lc_one 0, lc_one 9, lc_one 0, lc_one 0, lc_one 0, g1, g6, lc_one_W 18, lc_one_W 9, rfl, by rw [e]; rfl⟩
    · refine br_t h1 (br_f h6 (lx_ini (n := 6) _ 6 rfl (by decide) (br_t h1 (br_f h6 ⟨_, ly_i79 _ 6 ?_ 18 0 (by omega)⟩))))
      exact ⟨6, lc_one 18, lc_one 0, lc_one 9, lc_one 0, lc_one 0, lc_one 0, by decide, by decide, lc_one_W 18, lc_one_W 9, rfl, rfl⟩
  · refine br_f h1 (lx_ini (n := 1) _ 1 rfl (by decide) (br_f h1 ⟨_, ly_i79 _ 1 ?_ 18 0 (by omega)⟩))
    exact ⟨1, lc_one 18, lc_one 0, lc_one 9, lc_one 0, lc_one 0, lc_one 0, by decide, by decide, lc_one_W 18, lc_one_W 9, rfl, rfl⟩
theorem i_vc_weigh {k : Nat} {u : SX} {v : SY} (I : i_Rel k u v) (hk : k + 4 ≤ 2049) (v1 : Int32) (v2 : Int32) (v3 : Int32) : wpX_weigh (fun r u' => wpY_weigh (fun r' v' => r' = r ∧ i_Rel (k + 4) u' v') v v1 v2 v3) u v1 v2 v3 := by
  obtain ⟨n, w, b, c, d, now, ta, h1, h6, hw, hc, rfl, rfl⟩ := I
  unfold wpX_weigh wpY_weigh
  dsimp only
  rcases lc_io v1 (k := n) (by omega) with ho | ⟨i, hi, rfl⟩
  · exact lx_pos_f ho (br_t rfl (ly_pos_f ho (br_t rfl ⟨rfl, n, w, b, c, d, now, ta, h1, h6, hw, hc, rfl, rfl⟩)))
  · refine lx_pos_t h6 hi (br_f (by decide) ?_)
    rcases lc_io v2 (k := 3) (by decide) with ho | ⟨a, ha, rfl⟩
    · exact lx_lab_f ho (br_t rfl (ly_pos_t h6 hi (br_f (by decide) (ly_lab_f ho (br_t rfl ⟨rfl, n, w, b, c, d, now, ta, h1, h6, hw, hc, rfl, rfl⟩)))))
    · refine lx_lab_t ha (br_f (by decide) ?_)
      rcases lc_io v3 (k := 10) (by decide) with ho | ⟨x, hx, rfl⟩
      · exact lx_wt_f ho (br_t rfl (ly_pos_t h6 hi (br_f (by decide) (ly_lab_t ha (br_f (by decide) (lc_o3 (k := 10) (by decide) ho rfl ⟨rfl, n, w, b, c, d, now, ta, h1, h6, hw, hc, rfl, rfl⟩))))))
      · refine lx_wt_t hx (br_f (by decide) ?_)
        have hin : vp_in (nI (3 * i + a)) 18 := vp_in_nI (by omega) (by decide)
        rw [lc_3]
        refine ⟨hin, nm_e (ly_pos_t h6 hi (br_f (by decide) (ly_lab_t ha (br_f (by decide) (lc_i3 (k := 10) hx (by decide) rfl ⟨hin, nm_e ⟨rfl, n, _, b, c, d, now, ta, h1, h6, lc_W_upd hw _ x (by omega), hc, rfl, rfl⟩⟩)))))⟩
theorem i_vc_weighCouple {k : Nat} {u : SX} {v : SY} (I : i_Rel k u v) (hk : k + 4 ≤ 2049) (v1 : Int32) (v2 : Int32) (v3 : Int32) : wpX_weighCouple (fun r u' => wpY_weighCouple (fun r' v' => r' = r ∧ i_Rel (k + 4) u' v') v v1 v2 v3) u v1 v2 v3 := by
  obtain ⟨n, w, b, c, d, now, ta, h1, h6, hw, hc, rfl, rfl⟩ := I
  unfold wpX_weighCouple wpY_weighCouple
  dsimp only
  rcases lc_io v1 (k := 3) (by omega) with ho | ⟨i, hi, rfl⟩
  · exact lx_lab_f ho (br_t rfl (ly_lab_f ho (br_t rfl ⟨rfl, n, w, b, c, d, now, ta, h1, h6, hw, hc, rfl, rfl⟩)))
  · refine lx_lab_t hi (br_f (by decide) ?_)
    rcases lc_io v2 (k := 3) (by decide) with ho | ⟨a, ha, rfl⟩
    · exact lx_lab_f ho (br_t rfl (ly_lab_t hi (br_f (by decide) (ly_lab_f ho (br_t rfl ⟨rfl, n, w, b, c, d, now, ta, h1, h6, hw, hc, rfl, rfl⟩)))))
    · refine lx_lab_t ha (br_f (by decide) ?_)
      rcases lc_io v3 (k := 10) (by decide) with ho | ⟨x, hx, rfl⟩
      · exact lx_wt_f ho (br_t rfl (ly_lab_t hi (br_f (by decide) (ly_lab_t ha (br_f (by decide) (lc_o3 (k := 10) (by decide) ho rfl ⟨rfl, n, w, b, c, d, now, ta, h1, h6, hw, hc, rfl, rfl⟩))))))
      · refine lx_wt_t hx (br_f (by decide) ?_)
        have hin : vp_in (nI (3 * i + a)) 9 := vp_in_nI (by omega) (by decide)
        rw [lc_3]
        refine ⟨hin, nm_e (ly_lab_t hi (br_f (by decide) (ly_lab_t ha (br_f (by decide) (lc_i3 (k := 10) hx (by decide) rfl ⟨hin, nm_e ⟨rfl, n, w, b, _, d, now, ta, h1, h6, hw, lc_W_upd hc _ x (by omega), rfl, rfl⟩⟩)))))⟩
theorem i_vc_bar {k : Nat} {u : SX} {v : SY} (I : i_Rel k u v) (hk : k + 4 ≤ 2049) (v1 : Int32) (v2 : Int32) (v3 : Int32) : wpX_bar (fun r u' => wpY_bar (fun r' v' => r' = r ∧ i_Rel (k + 4) u' v') v v1 v2 (lw_bz v3)) u v1 v2 (lw_bz v3) := by
  obtain ⟨n, w, b, c, d, now, ta, h1, h6, hw, hc, rfl, rfl⟩ := I
  unfold wpX_bar wpY_bar
  dsimp only
  rcases lc_io v1 (k := n) (by omega) with ho | ⟨i, hi, rfl⟩
  · exact lx_pos_f ho (br_t rfl (ly_pos_f ho (br_t rfl ⟨rfl, n, w, b, c, d, now, ta, h1, h6, hw, hc, rfl, rfl⟩)))
  · refine lx_pos_t h6 hi (br_f (by decide) ?_)
    rcases lc_io v2 (k := 3) (by decide) with ho | ⟨a, ha, rfl⟩
    · exact lx_lab_f ho (br_t rfl (ly_pos_t h6 hi (br_f (by decide) (ly_lab_f ho (br_t rfl ⟨rfl, n, w, b, c, d, now, ta, h1, h6, hw, hc, rfl, rfl⟩)))))
    · refine lx_lab_t ha (br_f (by decide) ?_)
      have hin : vp_in (nI (3 * i + a)) 18 := vp_in_nI (by omega) (by decide)
      rw [lc_3]
      exact ⟨hin, nm_e (ly_pos_t h6 hi (br_f (by decide) (ly_lab_t ha (br_f (by decide) ⟨hin, nm_e ⟨rfl, n, w, _, c, d, now, ta, h1, h6, hw, hc, rfl, rfl⟩⟩))))⟩
theorem i_vc_barCouple {k : Nat} {u : SX} {v : SY} (I : i_Rel k u v) (hk : k + 4 ≤ 2049) (v1 : Int32) (v2 : Int32) (v3 : Int32) : wpX_barCouple (fun r u' => wpY_barCouple (fun r' v' => r' = r ∧ i_Rel (k + 4) u' v') v v1 v2 (lw_bz v3)) u v1 v2 (lw_bz v3) := by
  obtain ⟨n, w, b, c, d, now, ta, h1, h6, hw, hc, rfl, rfl⟩ := I
  unfold wpX_barCouple wpY_barCouple
  dsimp only
  rcases lc_io v1 (k := 3) (by omega) with ho | ⟨i, hi, rfl⟩
  · exact lx_lab_f ho (br_t rfl (ly_lab_f ho (br_t rfl ⟨rfl, n, w, b, c, d, now, ta, h1, h6, hw, hc, rfl, rfl⟩)))
  · refine lx_lab_t hi (br_f (by decide) ?_)
    rcases lc_io v2 (k := 3) (by decide) with ho | ⟨a, ha, rfl⟩
    · exact lx_lab_f ho (br_t rfl (ly_lab_t hi (br_f (by decide) (ly_lab_f ho (br_t rfl ⟨rfl, n, w, b, c, d, now, ta, h1, h6, hw, hc, rfl, rfl⟩)))))
    · refine lx_lab_t ha (br_f (by decide) ?_)
      have hin : vp_in (nI (3 * i + a)) 9 := vp_in_nI (by omega) (by decide)
      rw [lc_3]
      exact ⟨hin, nm_e (ly_lab_t hi (br_f (by decide) (ly_lab_t ha (br_f (by decide) ⟨hin, nm_e ⟨rfl, n, w, b, c, _, now, ta, h1, h6, hw, hc, rfl, rfl⟩⟩))))⟩
theorem i_vc_allowed {k : Nat} {u : SX} {v : SY} (I : i_Rel k u v) (hk : k + 4 ≤ 2049) : wpX_allowed (fun r => wpY_allowed (fun r' v' => r' = r ∧ i_Rel (k + 4) u v') v) u := by
  obtain ⟨n, w, b, c, d, now, ta, h1, h6, hw, hc, rfl, rfl⟩ := I
  exact lx_allowed h1 h6 (lc_729 h6) _ (ly_allowed h1 h6 rfl (lc_729 h6) _ (fun now2 => ⟨rfl, n, w, b, c, d, now2, ta, h1, h6, hw, hc, rfl, rfl⟩))
theorem i_vc_best {k : Nat} {u : SX} {v : SY} (I : i_Rel k u v) (hk : k + 4 ≤ 2049) : wpX_best (fun r => wpY_best (fun r' v' => r' = r ∧ i_Rel (k + 4) u v') v) u := by
  obtain ⟨n, w, b, c, d, now, ta, h1, h6, hw, hc, rfl, rfl⟩ := I
  refine lx_best h1 h6 (lc_729 h6) hw hc _ (ly_best h1 h6 rfl (lc_729 h6) hw hc _ (fun now2 => ⟨?_, n, w, b, c, d, now2, ta, h1, h6, hw, hc, rfl, rfl⟩))
  rw [lc_G_mx (fun L => lc_S99 hw hc h6 L)]
theorem i_vc_label {k : Nat} {u : SX} {v : SY} (I : i_Rel k u v) (hk : k + 4 ≤ 2049) (v1 : Int32) : wpX_label (fun r => wpY_label (fun r' v' => r' = r ∧ i_Rel (k + 4) u v') v v1) u v1 := by
  obtain ⟨n, w, b, c, d, now, ta, h1, h6, hw, hc, rfl, rfl⟩ := I
  rcases lc_io v1 (k := n) (by omega) with ho | ⟨i, hi, rfl⟩
  · unfold wpX_label wpY_label
    dsimp only
    exact lx_pos_f ho (br_t rfl (ly_pos_f ho (br_t rfl ⟨rfl, n, w, b, c, d, now, ta, h1, h6, hw, hc, rfl, rfl⟩)))
  · exact lx_label h1 h6 (lc_729 h6) hw hc hi _ (ly_label h1 h6 rfl (lc_729 h6) hw hc hi _ (fun now2 => ⟨rfl, n, w, b, c, d, now2, ta, h1, h6, hw, hc, rfl, rfl⟩))
theorem i_vc_bestCount {k : Nat} {u : SX} {v : SY} (I : i_Rel k u v) (hk : k + 4 ≤ 2049) : wpX_bestCount (fun r => wpY_bestCount (fun r' v' => r' = r ∧ i_Rel (k + 4) u v') v) u := by
  obtain ⟨n, w, b, c, d, now, ta, h1, h6, hw, hc, rfl, rfl⟩ := I
  exact lx_bestCount h1 h6 (lc_729 h6) hw hc _ (ly_bestCount h1 h6 rfl (lc_729 h6) hw hc _ (fun now2 ta2 => ⟨rfl, n, w, b, c, d, now2, ta2, h1, h6, hw, hc, rfl, rfl⟩))
theorem i_vc_ranked {k : Nat} {u : SX} {v : SY} (I : i_Rel k u v) (hk : k + 4 ≤ 2049) (v1 : Int32) : wpX_ranked (fun r => wpY_ranked (fun r' v' => r' = r ∧ i_Rel (k + 4) u v') v v1) u v1 := by
  obtain ⟨n, w, b, c, d, now, ta, h1, h6, hw, hc, rfl, rfl⟩ := I
  rcases lc_io v1 (k := 8) (by decide) with ho | ⟨i, hi, rfl⟩
  · exact lc_o3 (k := 8) (by decide) ho rfl (lc_o3 (k := 8) (by decide) ho rfl ⟨rfl, n, w, b, c, d, now, ta, h1, h6, hw, hc, rfl, rfl⟩)
  · exact lx_ranked h1 h6 (lc_729 h6) hw hc (by omega) _ (ly_ranked h1 h6 rfl (lc_729 h6) hw hc (by omega) _ (fun now2 ta2 => ⟨rfl, n, w, b, c, d, now2, ta2, h1, h6, hw, hc, rfl, rfl⟩))
theorem i_vc_bestThrough {k : Nat} {u : SX} {v : SY} (I : i_Rel k u v) (hk : k + 4 ≤ 2049) (v1 : Int32) (v2 : Int32) : wpX_bestThrough (fun r => wpY_bestThrough (fun r' v' => r' = r ∧ i_Rel (k + 4) u v') v v1 v2) u v1 v2 := by
  obtain ⟨n, w, b, c, d, now, ta, h1, h6, hw, hc, rfl, rfl⟩ := I
  unfold wpX_bestThrough wpY_bestThrough
  dsimp only
  rcases lc_io v1 (k := n) (by omega) with ho | ⟨i, hi, rfl⟩
  · exact lx_pos_f ho (br_t rfl (ly_pos_f ho (br_t rfl ⟨rfl, n, w, b, c, d, now, ta, h1, h6, hw, hc, rfl, rfl⟩)))
  · refine lx_pos_t h6 hi (br_f (by decide) ?_)
    rcases lc_io v2 (k := 3) (by decide) with ho | ⟨a, ha, rfl⟩
    · exact lx_lab_f ho (br_t rfl (ly_pos_t h6 hi (br_f (by decide) (ly_lab_f ho (br_t rfl ⟨rfl, n, w, b, c, d, now, ta, h1, h6, hw, hc, rfl, rfl⟩)))))
    · refine lx_lab_t ha (br_f (by decide) ⟨_, lx_bt h1 h6 (lc_729 h6) hw hc hi ha _ ?_ (3 ^ n) 0 (by omega) (Nat.zero_le _)⟩)
      exact ly_pos_t h6 hi (br_f (by decide) (ly_lab_t ha (br_f (by decide) (ly_labellings h6 _ ⟨_, ly_bt h1 h6 rfl (lc_729 h6) hw hc hi ha _ (fun now2 => ⟨rfl, n, w, b, c, d, now2, ta, h1, h6, hw, hc, rfl, rfl⟩) (3 ^ n) 0 now (by omega)⟩))))
theorem i_vc_total {k : Nat} {u : SX} {v : SY} (I : i_Rel k u v) (hk : k + 4 ≤ 2049) : wpX_total (fun r => wpY_total (fun r' v' => r' = r ∧ i_Rel (k + 4) u v') v) u := by
  obtain ⟨n, w, b, c, d, now, ta, h1, h6, hw, hc, rfl, rfl⟩ := I
  exact lx_total h1 h6 (lc_729 h6) _ (ly_total h1 h6 rfl (lc_729 h6) _ (fun now2 => ⟨rfl, n, w, b, c, d, now2, ta, h1, h6, hw, hc, rfl, rfl⟩))
theorem i_vc_through {k : Nat} {u : SX} {v : SY} (I : i_Rel k u v) (hk : k + 4 ≤ 2049) (v1 : Int32) (v2 : Int32) : wpX_through (fun r => wpY_through (fun r' v' => r' = r ∧ i_Rel (k + 4) u v') v v1 v2) u v1 v2 := by
  obtain ⟨n, w, b, c, d, now, ta, h1, h6, hw, hc, rfl, rfl⟩ := I
  unfold wpX_through wpY_through
  dsimp only
  rcases lc_io v1 (k := n) (by omega) with ho | ⟨i, hi, rfl⟩
  · exact lx_pos_f ho (br_t rfl (ly_pos_f ho (br_t rfl ⟨rfl, n, w, b, c, d, now, ta, h1, h6, hw, hc, rfl, rfl⟩)))
  · refine lx_pos_t h6 hi (br_f (by decide) ?_)
    rcases lc_io v2 (k := 3) (by decide) with ho | ⟨a, ha, rfl⟩
    · exact lx_lab_f ho (br_t rfl (ly_pos_t h6 hi (br_f (by decide) (ly_lab_f ho (br_t rfl ⟨rfl, n, w, b, c, d, now, ta, h1, h6, hw, hc, rfl, rfl⟩)))))
    · refine lx_lab_t ha (br_f (by decide) ⟨_, lx_tr h1 h6 (lc_729 h6) hi ha _ ?_ (3 ^ n) 0 (by omega)⟩)
      exact ly_pos_t h6 hi (br_f (by decide) (ly_lab_t ha (br_f (by decide) (ly_labellings h6 _ ⟨_, ly_tr h1 h6 rfl (lc_729 h6) hi ha _ (fun now2 => ⟨rfl, n, w, b, c, d, now2, ta, h1, h6, hw, hc, rfl, rfl⟩) (3 ^ n) 0 now (by omega)⟩))))
theorem i_vc_throughCouple {k : Nat} {u : SX} {v : SY} (I : i_Rel k u v) (hk : k + 4 ≤ 2049) (v1 : Int32) (v2 : Int32) : wpX_throughCouple (fun r => wpY_throughCouple (fun r' v' => r' = r ∧ i_Rel (k + 4) u v') v v1 v2) u v1 v2 := by
  obtain ⟨n, w, b, c, d, now, ta, h1, h6, hw, hc, rfl, rfl⟩ := I
  unfold wpX_throughCouple wpY_throughCouple
  dsimp only
  rcases lc_io v1 (k := n - 1) (by omega) with ho | ⟨i, hi, rfl⟩
  · exact lc_o1 ho (lc_n1 h1) (lc_o2 (by omega) ho (lc_n2 h1 h6) ⟨rfl, n, w, b, c, d, now, ta, h1, h6, hw, hc, rfl, rfl⟩)
  · refine lc_i1 hi (by omega) (lc_n1 h1) ?_
    rcases lc_io v2 (k := 9) (by decide) with ho | ⟨a, ha, rfl⟩
    · exact lc_o4 (k := 9) ho rfl (lc_i2 hi (by omega) (lc_n2 h1 h6) (lc_o3 (k := 9) (by decide) ho rfl ⟨rfl, n, w, b, c, d, now, ta, h1, h6, hw, hc, rfl, rfl⟩))
    · refine lc_i4 (k := 9) ha (by decide) rfl ⟨_, lx_tc h1 h6 (lc_729 h6) hi ha _ ?_ (3 ^ n) 0 (by omega)⟩
      exact lc_i2 hi (by omega) (lc_n2 h1 h6) (lc_i3 (k := 9) ha (by decide) rfl (ly_labellings h6 _ ⟨_, ly_tc h1 h6 rfl (lc_729 h6) hi ha _ (fun now2 => ⟨rfl, n, w, b, c, d, now2, ta, h1, h6, hw, hc, rfl, rfl⟩) (3 ^ n) 0 now (by omega)⟩))
end
