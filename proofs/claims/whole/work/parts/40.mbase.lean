/-! numbers: sums, counts, loops whose state is known at each place -/
def z_sum (g : Nat → Nat) : Nat → Nat
  | 0 => 0
  | n + 1 => z_sum g n + g n
theorem z_sum_s (g : Nat → Nat) (n : Nat) : z_sum g (n + 1) = z_sum g n + g n := rfl
theorem z_sum_congr {g h : Nat → Nat} {n : Nat} (e : ∀ i, i < n → g i = h i) : z_sum g n = z_sum h n := by
  induction n with
  | zero => rfl
  | succ n ih => rw [z_sum_s, z_sum_s, ih (fun i hi => e i (by omega)), e n (by omega)]
theorem z_sum_le {g : Nat → Nat} {n m : Nat} (h : ∀ i, i < n → g i ≤ m) : z_sum g n ≤ n * m := by
  induction n with
  | zero => exact Nat.zero_le _
  | succ n ih =>
    have h1 := ih (fun i hi => h i (by omega))
    have h2 := h n (by omega)
    rw [z_sum_s, Nat.succ_mul]
    omega
theorem z_sum_mono {g h : Nat → Nat} {n : Nat} (e : ∀ i, i < n → g i ≤ h i) : z_sum g n ≤ z_sum h n := by
  induction n with
  | zero => exact Nat.le_refl _
  | succ n ih =>
    have h1 := ih (fun i hi => e i (by omega))
    have h2 := e n (by omega)
    rw [z_sum_s, z_sum_s]
    omega
def z_i (b : Bool) : Nat := if b then 1 else 0
theorem z_i_le (b : Bool) : z_i b ≤ 1 := by cases b <;> decide
theorem z_i_t {b : Bool} (h : b = true) : z_i b = 1 := by rw [h]; rfl
theorem z_i_f {b : Bool} (h : b = false) : z_i b = 0 := by rw [h]; rfl
/-- a loop upward whose whole state is known at each place -/
theorem lp_val {ρ : Type} (F : Nat → Nat → Option ρ) (n : Nat) (r : ρ) (hs : ∀ k fuel, k < n → F (fuel + 1) k = F fuel (k + 1)) (he : ∀ fuel, F (fuel + 1) n = some r) : ∀ (d k fuel : Nat), k + d = n → d < fuel → F fuel k = some r := by
  intro d
  induction d with
  | zero =>
    intro k fuel hk hf
    cases fuel with
    | zero => omega
    | succ fuel =>
      have : k = n := by omega
      subst this
      exact he fuel
  | succ d ih =>
    intro k fuel hk hf
    cases fuel with
    | zero => omega
    | succ fuel =>
      rw [hs k fuel (by omega)]
      exact ih (k + 1) fuel (by omega) (by omega)
/-- the same from the place k with the loops' own fuel -/
theorem lp_FU {ρ : Type} (F : Nat → Nat → Option ρ) (n : Nat) (r : ρ) (hn : n < 69999) (k : Nat) (hk : k ≤ n) (hs : ∀ k fuel, k < n → F (fuel + 1) k = F fuel (k + 1)) (he : ∀ fuel, F (fuel + 1) n = some r) : F FU k = some r :=
  lp_val F n r hs he (n - k) k FU (by omega) (by unfold FU; omega)
/-- from k0 on only -/
theorem lp_FU2 {ρ : Type} (F : Nat → Nat → Option ρ) (n : Nat) (r : ρ) (hn : n < 69999) (k0 : Nat) (hk : k0 ≤ n) (hs : ∀ k fuel, k0 ≤ k → k < n → F (fuel + 1) k = F fuel (k + 1)) (he : ∀ fuel, F (fuel + 1) n = some r) : F FU k0 = some r := by
  have h : ∀ (d k fuel : Nat), k0 ≤ k → k + d = n → d < fuel → F fuel k = some r := by
    intro d
    induction d with
    | zero =>
      intro k fuel h0 hk hf
      cases fuel with
      | zero => omega
      | succ fuel =>
        have : k = n := by omega
        subst this
        exact he fuel
    | succ d ih =>
      intro k fuel h0 hk hf
      cases fuel with
      | zero => omega
      | succ fuel =>
        rw [hs k fuel h0 (by omega)]
        exact ih (k + 1) fuel (by omega) (by omega) (by omega)
  exact h (n - k0) k0 FU (Nat.le_refl _) (by omega) (by unfold FU; omega)
/-- the first place from k on, among d -/
def z_fd (p : Nat → Bool) : Nat → Nat → Option Nat
  | 0, _ => none
  | d + 1, k => if p k = true then some k else z_fd p d (k + 1)
def z_el {τ : Type} (v : Nat → τ) (e : τ) : Option Nat → τ
  | some j => v j
  | none => e
theorem lp_find {τ : Type} (F : Nat → Nat → Option τ) (n : Nat) (p : Nat → Bool) (v : Nat → τ) (e : τ) (hs : ∀ k fuel, k < n → p k = false → F (fuel + 1) k = F fuel (k + 1)) (hp : ∀ k fuel, k < n → p k = true → F (fuel + 1) k = some (v k)) (he : ∀ fuel, F (fuel + 1) n = some e) : ∀ (d k fuel : Nat), k + d = n → d < fuel → F fuel k = some (z_el v e (z_fd p d k)) := by
  intro d
  induction d with
  | zero =>
    intro k fuel hk hf
    cases fuel with
    | zero => omega
    | succ fuel =>
      have : k = n := by omega
      subst this
      exact he fuel
  | succ d ih =>
    intro k fuel hk hf
    cases fuel with
    | zero => omega
    | succ fuel =>
      cases hpk : p k with
      | true =>
        rw [hp k fuel (by omega) hpk]
        simp [z_fd, hpk, z_el]
      | false =>
        rw [hs k fuel (by omega) hpk, ih (k + 1) fuel (by omega) (by omega)]
        simp [z_fd, hpk]
theorem lp_findFU {τ : Type} (F : Nat → Nat → Option τ) (n : Nat) (hn : n < 69999) (p : Nat → Bool) (v : Nat → τ) (e : τ) (hs : ∀ k fuel, k < n → p k = false → F (fuel + 1) k = F fuel (k + 1)) (hp : ∀ k fuel, k < n → p k = true → F (fuel + 1) k = some (v k)) (he : ∀ fuel, F (fuel + 1) n = some e) : F FU 0 = some (z_el v e (z_fd p n 0)) :=
  lp_find F n p v e hs hp he n 0 FU (by omega) (by unfold FU; omega)
theorem z_fd_none {p : Nat → Bool} : ∀ {d k : Nat}, z_fd p d k = none → ∀ j, k ≤ j → j < k + d → p j = false := by
  intro d
  induction d with
  | zero => intro k _ j h1 h2; omega
  | succ d ih =>
    intro k h j h1 h2
    unfold z_fd at h
    by_cases hp : p k = true
    · rw [if_pos hp] at h; cases h
    · rw [if_neg hp] at h
      by_cases hj : j = k
      · subst hj; simpa using hp
      · exact ih h j (by omega) (by omega)
theorem z_fd_some {p : Nat → Bool} : ∀ {d k i : Nat}, z_fd p d k = some i → k ≤ i ∧ i < k + d ∧ p i = true ∧ ∀ j, k ≤ j → j < i → p j = false := by
  intro d
  induction d with
  | zero => intro k i h; cases h
  | succ d ih =>
    intro k i h
    unfold z_fd at h
    by_cases hp : p k = true
    · rw [if_pos hp] at h
      cases h
      exact ⟨Nat.le_refl _, by omega, hp, fun j h1 h2 => by omega⟩
    · rw [if_neg hp] at h
      obtain ⟨h1, h2, h3, h4⟩ := ih h
      refine ⟨by omega, by omega, h3, fun j h5 h6 => ?_⟩
      by_cases hj : j = k
      · subst hj; simpa using hp
      · exact h4 j (by omega) h6
theorem z_fd_congr {p q : Nat → Bool} : ∀ {d k : Nat}, (∀ j, k ≤ j → j < k + d → p j = q j) → z_fd p d k = z_fd q d k := by
  intro d
  induction d with
  | zero => intro k _; rfl
  | succ d ih =>
    intro k h
    unfold z_fd
    rw [h k (Nat.le_refl _) (by omega), ih (fun j h1 h2 => h j (by omega) (by omega))]
/-- an array filled up to k -/
def z_fl (v f : Nat → Int32) (k : Nat) : Nat → Int32 := fun i => if i < k then v i else f i
theorem z_fl_0 (v f : Nat → Int32) : z_fl v f 0 = f := by funext i; simp [z_fl]
theorem z_fl_s (v f : Nat → Int32) (k : Nat) : upd (z_fl v f k) k (v k) = z_fl v f (k + 1) := by
  funext i
  unfold upd z_fl
  by_cases h : i = k
  · subst h; simp
  · by_cases h2 : i < k
    · rw [if_neg h, if_pos h2, if_pos (by omega)]
    · rw [if_neg h, if_neg h2, if_neg (by omega)]
theorem z_fl_s' (v f : Nat → Int32) (k : Nat) (x : Int32) (e : x = v k) : upd (z_fl v f k) k x = z_fl v f (k + 1) := by rw [e]; exact z_fl_s v f k
theorem z_fl_in {v f : Nat → Int32} {k i : Nat} (h : i < k) : z_fl v f k i = v i := if_pos h
theorem z_fl_out {v f : Nat → Int32} {k i : Nat} (h : k ≤ i) : z_fl v f k i = f i := if_neg (by omega)
/-- digits -/
def Rg (f : Nat → Int32) (g : Nat → Nat) (n : Nat) : Prop := ∀ i, i < n → g i < 4 ∧ f i = nI (g i)
theorem nI_1' (k : Nat) : nI k + (1 : Int32) = nI (k + 1) := nI_1 k
theorem nI_eq' {a b : Nat} (ha : a < 2 ^ 31) (hb : b < 2 ^ 31) : (nI a = nI b) = (a = b) := propext (nI_eq ha hb)
theorem nI_add0 (a : Nat) : nI a + (0 : Int32) = nI a := by rw [show (0 : Int32) = nI 0 from rfl, nI_add]; rfl
theorem nI_sub' {a b : Nat} (h : b ≤ a) : nI a - nI b = nI (a - b) := pk_sub h
theorem nI_m1' {n : Nat} (h : 1 ≤ n) : nI n - (1 : Int32) = nI (n - 1) := by
  rw [show (1 : Int32) = nI 1 from rfl]; exact pk_sub h
theorem nI_rem2 {a : Nat} (h : a < 2 ^ 31) : nI a - nI a / (2 : Int32) * (2 : Int32) = nI (a % 2) := by
  rw [show (2 : Int32) = nI 2 from rfl]; exact pk_rem h (by decide) (by decide)
theorem z_div2 {a : Nat} (h : a < 2 ^ 31) : nI a / (2 : Int32) = nI (a / 2) := by
  rw [show (2 : Int32) = nI 2 from rfl]; exact pk_div h (by decide) (by decide)
