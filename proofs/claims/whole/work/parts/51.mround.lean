/-! round rows -/
def z_ct (g : Nat → Nat) (n d r v : Nat) : Nat := z_sum (fun t => if g (r + t * d) = v then 1 else 0) (n / d)
def z_mxk (c : Nat → Nat) : Nat → Nat
  | 0 => 0
  | k + 1 => if c k ≤ z_mxk c k then z_mxk c k else c k
def z_axk (c : Nat → Nat) : Nat → Nat
  | 0 => 0
  | k + 1 => if c k ≤ z_mxk c k then z_axk c k else k
theorem z_mxk_s (c : Nat → Nat) (k : Nat) : z_mxk c (k + 1) = if c k ≤ z_mxk c k then z_mxk c k else c k := rfl
theorem z_axk_s (c : Nat → Nat) (k : Nat) : z_axk c (k + 1) = if c k ≤ z_mxk c k then z_axk c k else k := rfl
theorem z_mxk_ge {c : Nat → Nat} : ∀ {k v : Nat}, v < k → c v ≤ z_mxk c k := by
  intro k
  induction k with
  | zero => intro v h; omega
  | succ k ih =>
    intro v h
    rw [z_mxk_s]
    by_cases e : v = k
    · subst e; split <;> omega
    · have := ih (v := v) (by omega)
      split <;> omega
theorem z_axk_le (c : Nat → Nat) : ∀ k, z_axk c k ≤ k - 1 := by
  intro k
  induction k with
  | zero => exact Nat.le_refl _
  | succ k ih => rw [z_axk_s]; split <;> omega
theorem z_axk_spec (c : Nat → Nat) : ∀ k, (0 < z_mxk c k → c (z_axk c k) = z_mxk c k) ∧ ∀ v, v < z_axk c k → c v < z_mxk c k := by
  intro k
  induction k with
  | zero => exact ⟨fun h => absurd h (Nat.lt_irrefl _), fun v h => absurd h (Nat.not_lt_zero _)⟩
  | succ k ih =>
    rw [z_mxk_s, z_axk_s]
    by_cases e : c k ≤ z_mxk c k
    · rw [if_pos e, if_pos e]; exact ih
    · rw [if_neg e, if_neg e]
      refine ⟨fun _ => rfl, fun v h => ?_⟩
      have := z_mxk_ge (c := c) h
      omega
theorem z_mxk_congr {c c' : Nat → Nat} : ∀ {k : Nat}, (∀ v, v < k → c v = c' v) → z_mxk c k = z_mxk c' k := by
  intro k
  induction k with
  | zero => intro _; rfl
  | succ k ih => intro h; rw [z_mxk_s, z_mxk_s, ih (fun v hv => h v (by omega)), h k (by omega)]
theorem z_mxk_le {c : Nat → Nat} {m : Nat} : ∀ {k : Nat}, (∀ v, v < k → c v ≤ m) → z_mxk c k ≤ m := by
  intro k
  induction k with
  | zero => intro _; exact Nat.zero_le _
  | succ k ih =>
    intro h
    have h1 := ih (fun v hv => h v (by omega))
    have h2 := h k (by omega)
    rw [z_mxk_s]
    split <;> omega
def z_pcost (g : Nat → Nat) (n d : Nat) : Nat := z_sum (fun r => n / d - z_mxk (z_ct g n d r) 4) d
def Dv (n p : Nat) : Prop := 1 ≤ p ∧ p < n ∧ n % p = 0
/-- the twelve -/
theorem Dv_cases {n p : Nat} (hn : n ≤ 8) (h : Dv n p) : (n = 2 ∧ p = 1) ∨ (n = 3 ∧ p = 1) ∨ (n = 4 ∧ p = 1) ∨ (n = 4 ∧ p = 2) ∨ (n = 5 ∧ p = 1) ∨ (n = 6 ∧ p = 1) ∨ (n = 6 ∧ p = 2) ∨ (n = 6 ∧ p = 3) ∨ (n = 7 ∧ p = 1) ∨ (n = 8 ∧ p = 1) ∨ (n = 8 ∧ p = 2) ∨ (n = 8 ∧ p = 4) := by
  obtain ⟨a, b, c⟩ := h
  rcases (show n = 2 ∨ n = 3 ∨ n = 4 ∨ n = 5 ∨ n = 6 ∨ n = 7 ∨ n = 8 by omega) with rfl | rfl | rfl | rfl | rfl | rfl | rfl <;> rcases (show p = 1 ∨ p = 2 ∨ p = 3 ∨ p = 4 ∨ p = 5 ∨ p = 6 ∨ p = 7 by omega) with rfl | rfl | rfl | rfl | rfl | rfl | rfl <;> omega
theorem z_regroup (f : Nat → Nat) {n p : Nat} (hn : n ≤ 8) (h : Dv n p) : z_sum f n = z_sum (fun r => z_sum (fun t => f (r + t * p)) (n / p)) p := by
  rcases Dv_cases hn h with ⟨rfl, rfl⟩ | ⟨rfl, rfl⟩ | ⟨rfl, rfl⟩ | ⟨rfl, rfl⟩ | ⟨rfl, rfl⟩ | ⟨rfl, rfl⟩ | ⟨rfl, rfl⟩ | ⟨rfl, rfl⟩ | ⟨rfl, rfl⟩ | ⟨rfl, rfl⟩ | ⟨rfl, rfl⟩ | ⟨rfl, rfl⟩ <;> simp [z_sum] <;> omega
theorem z_in {n p r t : Nat} (hn : n ≤ 8) (h : Dv n p) (hr : r < p) : t < n / p ↔ r + t * p < n := by
  rcases Dv_cases hn h with ⟨rfl, rfl⟩ | ⟨rfl, rfl⟩ | ⟨rfl, rfl⟩ | ⟨rfl, rfl⟩ | ⟨rfl, rfl⟩ | ⟨rfl, rfl⟩ | ⟨rfl, rfl⟩ | ⟨rfl, rfl⟩ | ⟨rfl, rfl⟩ | ⟨rfl, rfl⟩ | ⟨rfl, rfl⟩ | ⟨rfl, rfl⟩ <;> omega
theorem z_dvpos {n p : Nat} (hn : n ≤ 8) (h : Dv n p) : 1 ≤ n / p ∧ n / p ≤ 8 := by
  rcases Dv_cases hn h with ⟨rfl, rfl⟩ | ⟨rfl, rfl⟩ | ⟨rfl, rfl⟩ | ⟨rfl, rfl⟩ | ⟨rfl, rfl⟩ | ⟨rfl, rfl⟩ | ⟨rfl, rfl⟩ | ⟨rfl, rfl⟩ | ⟨rfl, rfl⟩ | ⟨rfl, rfl⟩ | ⟨rfl, rfl⟩ | ⟨rfl, rfl⟩ <;> omega
def z_gs (g : Nat → Nat) (n p i : Nat) : Nat := z_axk (z_ct g n p (i % p)) 4
theorem z_gs_lt (g : Nat → Nat) (n p i : Nat) : z_gs g n p i < 4 := by
  have := z_axk_le (z_ct g n p (i % p)) 4
  unfold z_gs
  omega
/-- the same by a period -/
def Pe (y : Nat → Nat) (n p : Nat) : Prop := ∀ i, i < n → y i = y (i % p)
theorem z_modp {r t p : Nat} (hr : r < p) : (r + t * p) % p = r := by rw [Nat.add_mul_mod_self_right, Nat.mod_eq_of_lt hr]
theorem z_gs_Pe (g : Nat → Nat) (n p : Nat) : Pe (z_gs g n p) n p := fun i _ => by unfold z_gs; rw [Nat.mod_mod]
theorem z_ct_le (g : Nat → Nat) (n d r v : Nat) : z_ct g n d r v ≤ n / d := by
  have := z_sum_le (g := fun t => if g (r + t * d) = v then 1 else 0) (n := n / d) (m := 1) (fun t _ => by split <;> omega)
  unfold z_ct
  omega
theorem z_cnt_not (g : Nat → Nat) (n d r v : Nat) : z_sum (fun t => if g (r + t * d) = v then 0 else 1) (n / d) = n / d - z_ct g n d r v := by
  have h : z_sum (fun t => if g (r + t * d) = v then 0 else 1) (n / d) + z_ct g n d r v = n / d := by
    unfold z_ct
    generalize n / d = m
    induction m with
    | zero => rfl
    | succ m ih => rw [z_sum_s, z_sum_s]; split <;> omega
  omega
theorem z_df_Pe {g y : Nat → Nat} {n p : Nat} (hn : n ≤ 8) (h : Dv n p) (hy : Pe y n p) : z_df g y n = z_sum (fun r => n / p - z_ct g n p r (y r)) p := by
  unfold z_df
  rw [z_regroup _ hn h]
  refine z_sum_congr (fun r hr => ?_)
  rw [← z_cnt_not]
  refine z_sum_congr (fun t ht => ?_)
  have hlt := (z_in (t := t) hn h hr).mp ht
  have e : y (r + t * p) = y r := by rw [hy _ hlt, z_modp hr]
  show (if g (r + t * p) = y (r + t * p) then 0 else 1) = _
  rw [e]
theorem z_ct_pos {g : Nat → Nat} {n p r : Nat} (hn : n ≤ 8) (h : Dv n p) (hr : r < p) (hg : D4 g n) : 0 < z_mxk (z_ct g n p r) 4 := by
  have hd := z_dvpos hn h
  have h1 : 0 < z_ct g n p r (g r) := by
    have := z_sum_lt (p := fun _ => 0) (q := fun t => if g (r + t * p) = g r then 1 else 0) (n := n / p) (j := 0) (fun _ _ => Nat.zero_le _) (by omega) (by show 0 < (if g (r + 0 * p) = g r then 1 else 0); rw [Nat.zero_mul, Nat.add_zero, if_pos rfl]; decide)
    have h2 : z_sum (fun _ => 0) (n / p) = 0 := z_sum_zero (fun _ _ => rfl)
    unfold z_ct
    omega
  have h3 := z_mxk_ge (c := z_ct g n p r) (hg r (by have := h.2.1; omega))
  omega
theorem z_gs_df {g : Nat → Nat} {n p : Nat} (hn : n ≤ 8) (h : Dv n p) (hg : D4 g n) : z_df g (z_gs g n p) n = z_pcost g n p := by
  rw [z_df_Pe hn h (z_gs_Pe g n p)]
  refine z_sum_congr (fun r hr => ?_)
  have e : z_gs g n p r = z_axk (z_ct g n p r) 4 := by unfold z_gs; rw [Nat.mod_eq_of_lt hr]
  rw [e, (z_axk_spec (z_ct g n p r) 4).1 (z_ct_pos hn h hr hg)]
theorem z_pc_lower {g y : Nat → Nat} {n p : Nat} (hn : n ≤ 8) (h : Dv n p) (hy : Pe y n p) (hy4 : D4 y n) : z_pcost g n p ≤ z_df g y n := by
  rw [z_df_Pe hn h hy]
  refine z_sum_mono (fun r hr => ?_)
  have := z_mxk_ge (c := z_ct g n p r) (hy4 r (by have := h.2.1; omega))
  omega
theorem z_pc_zero {y : Nat → Nat} {n p : Nat} (hn : n ≤ 8) (h : Dv n p) (hy : D4 y n) (h0 : z_pcost y n p = 0) : Pe y n p := by
  have h1 := z_gs_df hn h hy
  rw [h0] at h1
  have h2 := z_df_zero h1
  intro i hi
  have hp : i % p < p := Nat.mod_lt _ (by have := h.1; omega)
  rw [h2 i hi, h2 (i % p) (by have := h.2.1; omega), z_gs_Pe y n p i hi]
theorem z_pc_of_Pe {y : Nat → Nat} {n p : Nat} (hn : n ≤ 8) (h : Dv n p) (hy : D4 y n) (hp : Pe y n p) : z_pcost y n p = 0 := by
  have h1 := z_pc_lower (g := y) hn h hp hy
  have e : z_df y y n = 0 := z_sum_zero (fun i _ => if_pos rfl)
  omega
theorem z_cd_mono {a b : Nat → Nat} {n : Nat} (h : ∀ i, i < n → a i ≤ b i) : z_cd a n ≤ z_cd b n := by
  induction n with
  | zero => exact Nat.le_refl _
  | succ n ih =>
    have h1 := ih (fun i hi => h i (by omega))
    have h2 := h n (by omega)
    rw [z_cd_s, z_cd_s]
    omega
/-- how far from round: by the shifts 1 .. k -/
def z_rdk (g : Nat → Nat) (n : Nat) : Nat → Nat
  | 0 => n
  | k + 1 => if z_rdk g n k ≤ z_pcost g n (Nat.gcd (k + 1) n) then z_rdk g n k else z_pcost g n (Nat.gcd (k + 1) n)
theorem z_rdk_s (g : Nat → Nat) (n k : Nat) : z_rdk g n (k + 1) = if z_rdk g n k ≤ z_pcost g n (Nat.gcd (k + 1) n) then z_rdk g n k else z_pcost g n (Nat.gcd (k + 1) n) := rfl
def z_rd (g : Nat → Nat) (n : Nat) : Nat := z_rdk g n (n - 1)
theorem z_rdk_le {g : Nat → Nat} {n : Nat} : ∀ {k s : Nat}, 1 ≤ s → s ≤ k → z_rdk g n k ≤ z_pcost g n (Nat.gcd s n) := by
  intro k
  induction k with
  | zero => intro s h1 h2; omega
  | succ k ih =>
    intro s h1 h2
    rw [z_rdk_s]
    by_cases e : s = k + 1
    · subst e; split <;> omega
    · have := ih (s := s) h1 (by omega)
      split <;> omega
theorem z_rdk_or (g : Nat → Nat) (n : Nat) : ∀ k, z_rdk g n k = n ∨ ∃ s, 1 ≤ s ∧ s ≤ k ∧ z_rdk g n k = z_pcost g n (Nat.gcd s n) := by
  intro k
  induction k with
  | zero => exact Or.inl rfl
  | succ k ih =>
    rw [z_rdk_s]
    by_cases e : z_rdk g n k ≤ z_pcost g n (Nat.gcd (k + 1) n)
    · rw [if_pos e]
      rcases ih with h | ⟨s, h1, h2, h3⟩
      · exact Or.inl h
      · exact Or.inr ⟨s, h1, by omega, h3⟩
    · rw [if_neg e]
      exact Or.inr ⟨k + 1, by omega, Nat.le_refl _, rfl⟩
theorem z_gcd_Dv {n s : Nat} (h1 : 1 ≤ s) (h2 : s < n) : Dv n (Nat.gcd s n) := by
  have a := Nat.gcd_pos_of_pos_left n (show 0 < s by omega)
  have b := Nat.le_of_dvd (by omega) (Nat.gcd_dvd_left s n)
  exact ⟨a, by omega, Nat.mod_eq_zero_of_dvd (Nat.gcd_dvd_right s n)⟩
theorem z_Dv_gcd {n p : Nat} (h : Dv n p) : Nat.gcd p n = p := Nat.gcd_eq_left (Nat.dvd_of_mod_eq_zero h.2.2)
theorem z_rd_le {g : Nat → Nat} {n p : Nat} (h : Dv n p) : z_rd g n ≤ z_pcost g n p := by
  have := z_rdk_le (g := g) (n := n) (k := n - 1) (s := p) h.1 (by have := h.2.1; omega)
  rw [z_Dv_gcd h] at this
  exact this
theorem z_pc1_lt {g : Nat → Nat} {n : Nat} (hn : n ≤ 8) (h2 : 2 ≤ n) (hg : D4 g n) : z_pcost g n 1 < n := by
  have hd : Dv n 1 := ⟨by omega, by omega, Nat.mod_one n⟩
  have h := z_ct_pos (r := 0) hn hd (by decide) hg
  have e : z_pcost g n 1 = 0 + (n / 1 - z_mxk (z_ct g n 1 0) 4) := rfl
  rw [e, Nat.div_one]
  omega
theorem z_rd_at {g : Nat → Nat} {n : Nat} (hn : n ≤ 8) (h2 : 2 ≤ n) (hg : D4 g n) : ∃ p, Dv n p ∧ z_rd g n = z_pcost g n p := by
  rcases z_rdk_or g n (n - 1) with h | ⟨s, h1, h3, h4⟩
  · exfalso
    have a := z_rd_le (g := g) (n := n) (p := 1) ⟨by omega, by omega, Nat.mod_one n⟩
    have b := z_pc1_lt hn h2 hg
    unfold z_rd at a
    omega
  · exact ⟨_, z_gcd_Dv h1 (by omega), h4⟩
/-- what the program's search by periods comes to: the cheapest guess, of several the first -/
def MR (g : Nat → Nat) (n k fw : Nat) (h : Nat → Nat) : Prop := (∃ p, Dv n p ∧ p ≤ k ∧ (∀ i, i < n → h i = z_gs g n p i) ∧ fw = z_pcost g n p) ∧ ∀ p, Dv n p → p ≤ k → fw ≤ z_pcost g n p ∧ (z_pcost g n p = fw → z_cd h n ≤ z_cd (z_gs g n p) n)
theorem near3 {g h : Nat → Nat} {n fw : Nat} (h2 : 2 ≤ n) (hn : n ≤ 8) (hg : D4 g n) (hm : MR g n (n - 1) fw h) : Near (fun y => z_rd y n) g h n := by
  obtain ⟨⟨p, hp, hp1, hp2, hp3⟩, hall⟩ := hm
  have hD : D4 h n := fun i hi => by rw [hp2 i hi]; exact z_gs_lt g n p i
  have hP : Pe h n p := fun i hi => by
    have hp' : i % p < n := by have := Nat.mod_lt i (show 0 < p by have := hp.1; omega); have := hp.2.1; omega
    rw [hp2 i hi, hp2 _ hp', z_gs_Pe g n p i hi]
  have edf : z_df g h n = z_pcost g n p := by rw [z_df_congr (fun _ _ => rfl) hp2]; exact z_gs_df hn hp hg
  have erd : z_rd g n = fw := by
    have a := z_rd_le (g := g) hp
    obtain ⟨q, hq, hq2⟩ := z_rd_at hn h2 hg
    have b := (hall q hq (by have := hq.2.1; omega)).1
    omega
  refine ⟨hD, ?_, ?_, fun y hy h1 h3 => ?_⟩
  · show z_df g h n = z_rd g n
    omega
  · show z_rd h n = 0
    have a := z_rd_le (g := h) hp
    have b := z_pc_of_Pe hn hp hD hP
    omega
  · have h1 : z_df g y n = z_rd g n := h1
    obtain ⟨q, hq, hq2⟩ := z_rd_at hn h2 hy
    have h3 : z_rd y n = 0 := h3
    have hPy := z_pc_zero hn hq hy (by omega)
    have lo := z_pc_lower (g := g) hn hq hPy hy
    have ha := hall q hq (by have := hq.2.1; omega)
    have eq1 : z_pcost g n q = fw := by omega
    have c1 := ha.2 eq1
    have each : ∀ r, r < q → z_ct g n q r (y r) = z_mxk (z_ct g n q r) 4 := by
      intro r hr
      have hle := z_mxk_ge (c := z_ct g n q r) (hy r (by have := hq.2.1; omega))
      rcases Nat.lt_or_ge (z_ct g n q r (y r)) (z_mxk (z_ct g n q r) 4) with w | w
      · exfalso
        have hmx : z_mxk (z_ct g n q r) 4 ≤ n / q := z_mxk_le (fun v _ => z_ct_le g n q r v)
        have hs := z_sum_lt (p := fun r => n / q - z_mxk (z_ct g n q r) 4) (q := fun r => n / q - z_ct g n q r (y r)) (n := q) (j := r) (fun r' hr' => by
          have := z_mxk_ge (c := z_ct g n q r') (hy r' (by have := hq.2.1; omega))
          show n / q - z_mxk (z_ct g n q r') 4 ≤ n / q - z_ct g n q r' (y r')
          omega) hr (by show n / q - z_mxk (z_ct g n q r) 4 < n / q - z_ct g n q r (y r); omega)
        rw [← z_df_Pe hn hq hPy] at hs
        unfold z_pcost at eq1
        omega
      · omega
    have c2 : z_cd (z_gs g n q) n ≤ z_cd y n := z_cd_mono (fun i hi => by
      have hr : i % q < q := Nat.mod_lt _ (by have := hq.1; omega)
      rw [hPy i hi]
      show z_axk (z_ct g n q (i % q)) 4 ≤ y (i % q)
      rcases Nat.lt_or_ge (y (i % q)) (z_axk (z_ct g n q (i % q)) 4) with w | w
      · have := (z_axk_spec (z_ct g n q (i % q)) 4).2 _ w
        have := each (i % q) hr
        omega
      · exact w)
    omega
