/-! rows as numbers: lesser rows are lesser numbers -/
def z_cd (a : Nat → Nat) : Nat → Nat
  | 0 => 0
  | n + 1 => 4 * z_cd a n + a n
theorem z_cd_s (a : Nat → Nat) (n : Nat) : z_cd a (n + 1) = 4 * z_cd a n + a n := rfl
def D4 (a : Nat → Nat) (n : Nat) : Prop := ∀ i, i < n → a i < 4
theorem D4.le {a : Nat → Nat} {n m : Nat} (h : D4 a n) (hm : m ≤ n) : D4 a m := fun i hi => h i (by omega)
theorem z_cd_lt {a : Nat → Nat} {n : Nat} (h : D4 a n) : z_cd a n < 4 ^ n := by
  induction n with
  | zero => exact Nat.zero_lt_one
  | succ n ih =>
    have h1 := ih (h.le (by omega))
    have h2 := h n (by omega)
    rw [z_cd_s, Nat.pow_succ]
    omega
theorem z_cd_congr {a b : Nat → Nat} {n : Nat} (e : ∀ i, i < n → a i = b i) : z_cd a n = z_cd b n := by
  induction n with
  | zero => rfl
  | succ n ih => rw [z_cd_s, z_cd_s, ih (fun i hi => e i (by omega)), e n (by omega)]
theorem z_cd_inj {a b : Nat → Nat} {n : Nat} (ha : D4 a n) (hb : D4 b n) (e : z_cd a n = z_cd b n) : ∀ i, i < n → a i = b i := by
  induction n with
  | zero => intro i hi; omega
  | succ n ih =>
    rw [z_cd_s, z_cd_s] at e
    have h1 := ha n (by omega)
    have h2 := hb n (by omega)
    intro i hi
    by_cases q : i = n
    · subst q; omega
    · exact ih (ha.le (by omega)) (hb.le (by omega)) (by omega) i (by omega)
/-- the first place that differs decides -/
theorem z_cd_first {a b : Nat → Nat} {n : Nat} (ha : D4 a n) (hb : D4 b n) (h : z_cd a n < z_cd b n) : ∃ j, j < n ∧ a j < b j ∧ ∀ i, i < j → a i = b i := by
  induction n with
  | zero => exact absurd h (Nat.lt_irrefl _)
  | succ n ih =>
    rw [z_cd_s, z_cd_s] at h
    have h1 := ha n (by omega)
    have h2 := hb n (by omega)
    rcases Nat.lt_trichotomy (z_cd a n) (z_cd b n) with q | q | q
    · obtain ⟨j, h3, h4, h5⟩ := ih (ha.le (by omega)) (hb.le (by omega)) q
      exact ⟨j, by omega, h4, h5⟩
    · exact ⟨n, by omega, by omega, z_cd_inj (ha.le (by omega)) (hb.le (by omega)) q⟩
    · omega
theorem z_cd_of_first {a b : Nat → Nat} {n j : Nat} (ha : D4 a n) (hb : D4 b n) (hj : j < n) (h : a j < b j) (he : ∀ i, i < j → a i = b i) : z_cd a n < z_cd b n := by
  induction n with
  | zero => omega
  | succ n ih =>
    rw [z_cd_s, z_cd_s]
    have h1 := ha n (by omega)
    by_cases q : j = n
    · subst q
      rw [z_cd_congr he]
      omega
    · have := ih (ha.le (by omega)) (hb.le (by omega)) (by omega)
      omega
theorem z_lt_cd {a b : Nat → Nat} {n : Nat} (ha : D4 a n) (hb : D4 b n) : z_lt a b n = true ↔ z_cd a n < z_cd b n := by
  unfold z_lt
  cases hz : z_fd (fun k => decide (a k ≠ b k)) n 0 with
  | none =>
    have e := z_fd_none hz
    have e2 : z_cd a n = z_cd b n := z_cd_congr (fun i hi => by simpa using e i (by omega) (by omega))
    simp [e2]
  | some j =>
    obtain ⟨_, h1, h2, h3⟩ := z_fd_some hz
    have he : ∀ i, i < j → a i = b i := fun i hi => by simpa using h3 i (by omega) hi
    have hne : a j ≠ b j := by simpa using h2
    constructor
    · intro h
      exact z_cd_of_first ha hb (by omega) (by simpa using h) he
    · intro h
      rcases Nat.lt_or_ge (a j) (b j) with q | q
      · simpa using q
      · have := z_cd_of_first hb ha (j := j) (by omega) (by omega) (fun i hi => (he i hi).symm)
        omega
/-- the row of a number -/
def z_dec (n x i : Nat) : Nat := x / 4 ^ (n - 1 - i) % 4
theorem z_dec_lt (n x : Nat) : D4 (z_dec n x) n := fun i _ => Nat.mod_lt _ (by decide)
theorem z_dec_cd {n x : Nat} (h : x < 4 ^ n) : z_cd (z_dec n x) n = x := by
  have key : ∀ k, k ≤ n → z_cd (z_dec n x) k = x / 4 ^ (n - k) % 4 ^ k := by
    intro k
    induction k with
    | zero => intro _; rw [Nat.pow_zero, Nat.mod_one]; rfl
    | succ k ih =>
      intro hk
      rw [z_cd_s, ih (by omega)]
      unfold z_dec
      have e1 : n - k = (n - (k + 1)) + 1 := by omega
      have e2 : n - 1 - k = n - (k + 1) := by omega
      rw [e1, e2, Nat.pow_succ 4 (n - (k + 1)), ← Nat.div_div_eq_div_mul, Nat.pow_succ 4 k, Nat.mul_comm (4 ^ k) 4, Nat.mod_mul]
      omega
  have := key n (Nat.le_refl n)
  rw [this, Nat.sub_self, Nat.pow_zero, Nat.div_one, Nat.mod_eq_of_lt h]
theorem z_dec_of {a : Nat → Nat} {n : Nat} (ha : D4 a n) : ∀ i, i < n → z_dec n (z_cd a n) i = a i :=
  z_cd_inj (z_dec_lt n _) ha (z_dec_cd (z_cd_lt ha))
-- sums with one place changed
theorem z_sum_lt {p q : Nat → Nat} {n j : Nat} (h : ∀ i, i < n → p i ≤ q i) (hj : j < n) (h2 : p j < q j) : z_sum p n < z_sum q n := by
  induction n with
  | zero => omega
  | succ n ih =>
    rw [z_sum_s, z_sum_s]
    by_cases e : j = n
    · subst e
      have := z_sum_mono (g := p) (h := q) (n := j) (fun i hi => h i (by omega))
      omega
    · have := ih (fun i hi => h i (by omega)) (by omega)
      have := h n (by omega)
      omega
theorem z_sum_upd {y g : Nat → Nat} {n p : Nat} (hp : p < n) (h : ∀ i, i < n → i ≠ p → y i = g i) : z_sum y n + g p = z_sum g n + y p := by
  induction n with
  | zero => omega
  | succ n ih =>
    rw [z_sum_s, z_sum_s]
    by_cases e : p = n
    · subst e
      rw [z_sum_congr (g := y) (h := g) (fun i hi => h i (by omega) (by omega))]
      omega
    · have h1 := ih (by omega) (fun i hi => h i (by omega))
      have h2 := h n (by omega) (by omega)
      omega
theorem z_sum_two {f : Nat → Nat} {n p q : Nat} (hp : p < n) (hq : q < n) (hpq : p ≠ q) : f p + f q ≤ z_sum f n := by
  have one : ∀ {m r : Nat}, r < m → f r ≤ z_sum f m := by
    intro m
    induction m with
    | zero => intro r h; omega
    | succ m ih =>
      intro r h
      rw [z_sum_s]
      by_cases e : r = m
      · subst e; omega
      · have := ih (r := r) (by omega); omega
  induction n with
  | zero => omega
  | succ n ih =>
    rw [z_sum_s]
    by_cases e1 : p = n
    · have := one (m := n) (r := q) (by omega)
      rw [e1]; omega
    · by_cases e2 : q = n
      · have := one (m := n) (r := p) (by omega)
        rw [e2]; omega
      · have := ih (by omega) (by omega)
        omega
theorem z_df_congr {g h g' h' : Nat → Nat} {n : Nat} (e : ∀ i, i < n → g i = g' i) (e2 : ∀ i, i < n → h i = h' i) : z_df g h n = z_df g' h' n :=
  z_sum_congr (fun i hi => by rw [e i hi, e2 i hi])
theorem z_df_zero {g h : Nat → Nat} {n : Nat} (e : z_df g h n = 0) : ∀ i, i < n → g i = h i := by
  induction n with
  | zero => intro i hi; omega
  | succ n ih =>
    have es : z_df g h (n + 1) = z_df g h n + (if g n = h n then 0 else 1) := rfl
    rw [es] at e
    intro i hi
    by_cases q : g n = h n
    · by_cases q2 : i = n
      · subst q2; exact q
      · exact ih (by omega) i (by omega)
    · rw [if_neg q] at e; omega
theorem z_df_le (g h : Nat → Nat) (n : Nat) : z_df g h n ≤ n := by
  have := z_sum_le (g := fun i => if g i = h i then 0 else 1) (n := n) (m := 1) (fun i _ => by split <;> omega)
  unfold z_df
  omega
