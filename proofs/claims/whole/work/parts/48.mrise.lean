/-! rising rows: costs, the nearest, and the reference's longest rising choice -/
def z_h (g : Nat → Nat) (i v : Nat) : Nat := if g i = v then 0 else 1
def z_mn2 (a b : Nat) : Nat := if b < a then b else a
/-- the least of w v .. w 3 and 8, as the program goes through them -/
def z_mn (w : Nat → Nat) (v : Nat) : Nat :=
  if v = 0 then z_mn2 (z_mn2 (z_mn2 (z_mn2 8 (w 3)) (w 2)) (w 1)) (w 0) else if v = 1 then z_mn2 (z_mn2 (z_mn2 8 (w 3)) (w 2)) (w 1) else if v = 2 then z_mn2 (z_mn2 8 (w 3)) (w 2) else z_mn2 8 (w 3)
/-- the fewest changes of d places before the end, no digit less than v -/
def z_zc (g : Nat → Nat) (n : Nat) : Nat → Nat → Nat
  | 0, _ => 0
  | d + 1, v => z_mn (fun u => z_h g (n - (d + 1)) u + z_zc g n d u) v
def z_co (g : Nat → Nat) (n i v : Nat) : Nat := z_zc g n (n - i) v
def z_cw (g : Nat → Nat) (n i v : Nat) : Nat := z_h g i v + z_co g n (i + 1) v
theorem z_co_n (g : Nat → Nat) (n v : Nat) : z_co g n n v = 0 := by unfold z_co; rw [Nat.sub_self]; rfl
theorem z_co_s (g : Nat → Nat) {n i : Nat} (v : Nat) (hi : i < n) : z_co g n i v = z_mn (z_cw g n i) v := by
  unfold z_co z_cw
  obtain ⟨d, hd⟩ : ∃ d, n - i = d + 1 := ⟨n - i - 1, by omega⟩
  rw [hd]
  show z_mn (fun u => z_h g (n - (d + 1)) u + z_zc g n d u) v = _
  have e1 : n - (d + 1) = i := by omega
  rw [e1]
  unfold z_co
  have e2 : n - (i + 1) = d := by omega
  rw [e2]
theorem z_h_le (g : Nat → Nat) (i v : Nat) : z_h g i v ≤ 1 := by unfold z_h; split <;> omega
theorem z_mn2_le1 (a b : Nat) : z_mn2 a b ≤ a := by unfold z_mn2; split <;> omega
theorem z_mn2_le2 (a b : Nat) : z_mn2 a b ≤ b := by unfold z_mn2; split <;> omega
theorem z_mn2_or (a b : Nat) : z_mn2 a b = a ∨ z_mn2 a b = b := by unfold z_mn2; split <;> simp
theorem z_mn_le8 (w : Nat → Nat) (v : Nat) : z_mn w v ≤ 8 := by
  have a := z_mn2_le1 8 (w 3)
  have b := z_mn2_le1 (z_mn2 8 (w 3)) (w 2)
  have c := z_mn2_le1 (z_mn2 (z_mn2 8 (w 3)) (w 2)) (w 1)
  have d := z_mn2_le1 (z_mn2 (z_mn2 (z_mn2 8 (w 3)) (w 2)) (w 1)) (w 0)
  unfold z_mn
  split
  · omega
  · split
    · omega
    · split <;> omega
theorem z_mn_le (w : Nat → Nat) {v u : Nat} (h : v ≤ u) (hu : u < 4) : z_mn w v ≤ w u := by
  have a := z_mn2_le2 8 (w 3)
  have b1 := z_mn2_le1 (z_mn2 8 (w 3)) (w 2)
  have b2 := z_mn2_le2 (z_mn2 8 (w 3)) (w 2)
  have c1 := z_mn2_le1 (z_mn2 (z_mn2 8 (w 3)) (w 2)) (w 1)
  have c2 := z_mn2_le2 (z_mn2 (z_mn2 8 (w 3)) (w 2)) (w 1)
  have d1 := z_mn2_le1 (z_mn2 (z_mn2 (z_mn2 8 (w 3)) (w 2)) (w 1)) (w 0)
  have d2 := z_mn2_le2 (z_mn2 (z_mn2 (z_mn2 8 (w 3)) (w 2)) (w 1)) (w 0)
  unfold z_mn
  rcases (show u = 0 ∨ u = 1 ∨ u = 2 ∨ u = 3 by omega) with rfl | rfl | rfl | rfl
  · rw [if_pos (by omega)]; omega
  · split
    · omega
    · rw [if_pos (by omega)]; omega
  · split
    · omega
    · split
      · omega
      · rw [if_pos (by omega)]; omega
  · split
    · omega
    · split
      · omega
      · split <;> omega
theorem z_mn_at (w : Nat → Nat) {v : Nat} (hv : v < 4) (h8 : ∀ u, u < 4 → w u ≤ 8) : ∃ u, v ≤ u ∧ u < 4 ∧ z_mn w v = w u := by
  have e3 : z_mn2 8 (w 3) = w 3 := by have := h8 3 (by decide); unfold z_mn2; split <;> omega
  have b := z_mn2_or (w 3) (w 2)
  have c := z_mn2_or (z_mn2 (w 3) (w 2)) (w 1)
  have d := z_mn2_or (z_mn2 (z_mn2 (w 3) (w 2)) (w 1)) (w 0)
  unfold z_mn
  rw [e3]
  rcases (show v = 0 ∨ v = 1 ∨ v = 2 ∨ v = 3 by omega) with rfl | rfl | rfl | rfl
  · rw [if_pos rfl]
    rcases d with d | d
    · rw [d]
      rcases c with c | c
      · rw [c]
        rcases b with b | b
        · exact ⟨3, by omega, by omega, b⟩
        · exact ⟨2, by omega, by omega, b⟩
      · exact ⟨1, by omega, by omega, c⟩
    · exact ⟨0, by omega, by omega, d⟩
  · rw [if_neg (by omega), if_pos rfl]
    rcases c with c | c
    · rw [c]
      rcases b with b | b
      · exact ⟨3, by omega, by omega, b⟩
      · exact ⟨2, by omega, by omega, b⟩
    · exact ⟨1, by omega, by omega, c⟩
  · rw [if_neg (by omega), if_neg (by omega), if_pos rfl]
    rcases b with b | b
    · exact ⟨3, by omega, by omega, b⟩
    · exact ⟨2, by omega, by omega, b⟩
  · rw [if_neg (by omega), if_neg (by omega), if_neg (by omega)]
    exact ⟨3, by omega, by omega, rfl⟩
theorem z_co_le (g : Nat → Nat) {n : Nat} (hn : n ≤ 8) : ∀ (d i v : Nat), i + d = n → z_co g n i v ≤ d := by
  intro d
  induction d with
  | zero =>
    intro i v h
    have : i = n := by omega
    subst this
    rw [z_co_n]
    exact Nat.le_refl _
  | succ d ih =>
    intro i v h
    rw [z_co_s g v (by omega)]
    have h1 := ih (i + 1) 3 (by omega)
    have h2 := z_h_le g i 3
    by_cases q : v < 4
    · have := z_mn_le (z_cw g n i) (v := v) (u := 3) (by omega) (by omega)
      unfold z_cw at this ⊢
      omega
    · have e : z_mn (z_cw g n i) v = z_mn (z_cw g n i) 3 := by
        unfold z_mn
        rw [if_neg (by omega), if_neg (by omega), if_neg (by omega), if_neg (by omega), if_neg (by omega), if_neg (by omega)]
      rw [e]
      have := z_mn_le (z_cw g n i) (v := 3) (u := 3) (by omega) (by omega)
      unfold z_cw at this ⊢
      omega
theorem z_cw_le8 (g : Nat → Nat) {n i : Nat} (hn : n ≤ 8) (hi : i < n) (v : Nat) : z_cw g n i v ≤ 8 := by
  have h1 := z_co_le g hn (n - (i + 1)) (i + 1) v (by omega)
  have h2 := z_h_le g i v
  unfold z_cw
  omega
/-- the first digit from l on that is as cheap -/
def z_nx (g : Nat → Nat) (n i : Nat) (F : Nat) : Nat → Nat → Nat
  | 0, l => l
  | d + 1, l => if 3 ≤ l then l else if z_cw g n i l ≤ F then l else z_nx g n i F d (l + 1)
def z_ri (g : Nat → Nat) (n : Nat) : Nat → Nat
  | 0 => z_nx g n 0 (z_co g n 0 0) 4 0
  | i + 1 => z_nx g n (i + 1) (z_co g n (i + 1) (z_ri g n i)) 4 (z_ri g n i)
def z_ls (g : Nat → Nat) (n i : Nat) : Nat := if i = 0 then 0 else z_ri g n (i - 1)
theorem z_ri_e (g : Nat → Nat) (n i : Nat) : z_ri g n i = z_nx g n i (z_co g n i (z_ls g n i)) 4 (z_ls g n i) := by
  cases i with
  | zero => rfl
  | succ i => unfold z_ls; rw [if_neg (by omega)]; rfl
theorem z_nx_spec (g : Nat → Nat) (n i F : Nat) : ∀ (d l : Nat), 3 ≤ l + d → l < 4 → l ≤ z_nx g n i F d l ∧ z_nx g n i F d l < 4 ∧ (∀ v, l ≤ v → v < z_nx g n i F d l → F < z_cw g n i v) ∧ (z_cw g n i (z_nx g n i F d l) ≤ F ∨ z_nx g n i F d l = 3) := by
  intro d
  induction d with
  | zero =>
    intro l h1 h2
    have e : l = 3 := by omega
    subst e
    exact ⟨Nat.le_refl _, Nat.lt_succ_self 3, fun v h3 h4 => by unfold z_nx at h4; omega, Or.inr rfl⟩
  | succ d ih =>
    intro l h1 h2
    unfold z_nx
    by_cases e : 3 ≤ l
    · rw [if_pos e]
      exact ⟨Nat.le_refl _, h2, fun v h3 h4 => by omega, Or.inr (by omega)⟩
    · rw [if_neg e]
      by_cases e2 : z_cw g n i l ≤ F
      · rw [if_pos e2]
        exact ⟨Nat.le_refl _, h2, fun v h3 h4 => by omega, Or.inl e2⟩
      · rw [if_neg e2]
        obtain ⟨q1, q2, q3, q4⟩ := ih (l + 1) (by omega) (by omega)
        refine ⟨by omega, q2, fun v h3 h4 => ?_, q4⟩
        by_cases e3 : v = l
        · subst e3; omega
        · exact q3 v (by omega) h4
theorem z_ri_spec (g : Nat → Nat) {n : Nat} (hn : n ≤ 8) : ∀ i, i < n → z_ls g n i < 4 ∧ z_ls g n i ≤ z_ri g n i ∧ z_ri g n i < 4 ∧ (∀ v, z_ls g n i ≤ v → v < z_ri g n i → z_co g n i (z_ls g n i) < z_cw g n i v) ∧ z_cw g n i (z_ri g n i) = z_co g n i (z_ls g n i) := by
  intro i
  induction i with
  | zero =>
    intro hi
    have l0 : z_ls g n 0 < 4 := by unfold z_ls; rw [if_pos rfl]; decide
    have sp := z_nx_spec g n 0 (z_co g n 0 (z_ls g n 0)) 4 (z_ls g n 0) (by omega) l0
    rw [← z_ri_e] at sp
    obtain ⟨s1, s2, s3, s4⟩ := sp
    refine ⟨l0, s1, s2, s3, ?_⟩
    obtain ⟨u, u1, u2, u3⟩ := z_mn_at (z_cw g n 0) l0 (fun u _ => z_cw_le8 g hn hi u)
    rw [← z_co_s g _ hi] at u3
    have lo := z_mn_le (z_cw g n 0) (v := z_ls g n 0) (u := z_ri g n 0) s1 s2
    rw [← z_co_s g _ hi] at lo
    rcases s4 with s4 | s4
    · omega
    · have : ¬ u < z_ri g n 0 := fun q => by have := s3 u u1 q; omega
      have e : u = z_ri g n 0 := by omega
      rw [← e]; omega
  | succ i ih =>
    intro hi
    have l0 : z_ls g n (i + 1) < 4 := by
      have := (ih (by omega)).2.2.1
      unfold z_ls
      rw [if_neg (by omega)]
      exact this
    have sp := z_nx_spec g n (i + 1) (z_co g n (i + 1) (z_ls g n (i + 1))) 4 (z_ls g n (i + 1)) (by omega) l0
    rw [← z_ri_e] at sp
    obtain ⟨s1, s2, s3, s4⟩ := sp
    refine ⟨l0, s1, s2, s3, ?_⟩
    obtain ⟨u, u1, u2, u3⟩ := z_mn_at (z_cw g n (i + 1)) l0 (fun u _ => z_cw_le8 g hn hi u)
    rw [← z_co_s g _ hi] at u3
    have lo := z_mn_le (z_cw g n (i + 1)) (v := z_ls g n (i + 1)) (u := z_ri g n (i + 1)) s1 s2
    rw [← z_co_s g _ hi] at lo
    rcases s4 with s4 | s4
    · omega
    · have : ¬ u < z_ri g n (i + 1) := fun q => by have := s3 u u1 q; omega
      have e : u = z_ri g n (i + 1) := by omega
      rw [← e]; omega
/-- changes from place i on -/
def z_sd (g y : Nat → Nat) (n i : Nat) : Nat := z_df g y n - z_df g y i
theorem z_df_s (g y : Nat → Nat) (n : Nat) : z_df g y (n + 1) = z_df g y n + z_h g n (y n) := rfl
theorem z_df_mono (g y : Nat → Nat) {i n : Nat} (h : i ≤ n) : z_df g y i ≤ z_df g y n := by
  induction n with
  | zero =>
    have : i = 0 := by omega
    subst this
    exact Nat.le_refl _
  | succ n ih =>
    by_cases e : i = n + 1
    · subst e; exact Nat.le_refl _
    · have := ih (by omega)
      rw [z_df_s]
      omega
theorem z_sd_s (g y : Nat → Nat) {n i : Nat} (h : i < n) : z_sd g y n i = z_h g i (y i) + z_sd g y n (i + 1) := by
  have h1 := z_df_mono g y (show i + 1 ≤ n by omega)
  have h2 := z_df_s g y i
  unfold z_sd
  omega
def Rs (y : Nat → Nat) (n : Nat) : Prop := ∀ i j, i ≤ j → j < n → y i ≤ y j
theorem z_lower (g : Nat → Nat) {n : Nat} {y : Nat → Nat} (hy : D4 y n) (hr : Rs y n) : ∀ (d i v : Nat), i + d = n → (∀ j, i ≤ j → j < n → v ≤ y j) → z_co g n i v ≤ z_sd g y n i := by
  intro d
  induction d with
  | zero =>
    intro i v h _
    have : i = n := by omega
    subst this
    rw [z_co_n]
    exact Nat.zero_le _
  | succ d ih =>
    intro i v h hv
    have h1 := ih (i + 1) (y i) (by omega) (fun j h2 h3 => hr i j (by omega) h3)
    have h2 := z_mn_le (z_cw g n i) (hv i (Nat.le_refl _) (by omega)) (hy i (by omega))
    have h3 : z_cw g n i (y i) = z_h g i (y i) + z_co g n (i + 1) (y i) := rfl
    rw [z_co_s g v (by omega), z_sd_s g y (by omega)]
    omega
theorem z_ri_Rs (g : Nat → Nat) {n : Nat} (hn : n ≤ 8) : Rs (z_ri g n) n := by
  intro i j hij
  induction j with
  | zero =>
    intro _
    have : i = 0 := by omega
    subst this
    exact Nat.le_refl _
  | succ j ih =>
    intro hj
    by_cases e : i = j + 1
    · subst e; exact Nat.le_refl _
    · have h1 := ih (by omega) (by omega)
      have h2 := (z_ri_spec g hn (j + 1) hj).2.1
      unfold z_ls at h2
      rw [if_neg (by omega), Nat.add_sub_cancel] at h2
      omega
theorem z_ri_sd (g : Nat → Nat) {n : Nat} (hn : n ≤ 8) : ∀ (d i : Nat), i + d = n → z_sd g (z_ri g n) n i = z_co g n i (z_ls g n i) := by
  intro d
  induction d with
  | zero =>
    intro i h
    have : i = n := by omega
    subst this
    rw [z_co_n]
    unfold z_sd
    omega
  | succ d ih =>
    intro i h
    have hi : i < n := by omega
    have h1 := ih (i + 1) (by omega)
    have h2 := (z_ri_spec g hn i hi).2.2.2.2
    have e : z_ls g n (i + 1) = z_ri g n i := by unfold z_ls; rw [if_neg (by omega), Nat.add_sub_cancel]
    rw [e] at h1
    rw [z_sd_s g _ hi, h1, ← h2]
    rfl
/-- how far from rising -/
def z_d0 (g : Nat → Nat) (n : Nat) : Nat := z_co g n 0 0
theorem z_ri_df (g : Nat → Nat) {n : Nat} (hn : n ≤ 8) : z_df g (z_ri g n) n = z_d0 g n := by
  have h := z_ri_sd g hn n 0 (by omega)
  have e : z_ls g n 0 = 0 := by unfold z_ls; rw [if_pos rfl]
  have e0 : z_df g (z_ri g n) 0 = 0 := rfl
  rw [e] at h
  unfold z_sd at h
  unfold z_d0
  omega
theorem z_d0_le {g y : Nat → Nat} {n : Nat} (hy : D4 y n) (hr : Rs y n) : z_d0 g n ≤ z_df g y n := by
  have h := z_lower g hy hr n 0 0 (by omega) (fun j _ _ => Nat.zero_le _)
  have e0 : z_df g y 0 = 0 := rfl
  unfold z_sd at h
  unfold z_d0
  omega
theorem z_ri_D4 (g : Nat → Nat) {n : Nat} (hn : n ≤ 8) : D4 (z_ri g n) n := fun i hi => (z_ri_spec g hn i hi).2.2.1
theorem z_d0_zero {y : Nat → Nat} {n : Nat} (hn : n ≤ 8) (h : z_d0 y n = 0) : Rs y n := by
  have h1 := z_ri_df y hn
  rw [h] at h1
  have h2 := z_df_zero h1
  intro i j h3 h4
  rw [h2 i (by omega), h2 j h4]
  exact z_ri_Rs y hn i j h3 h4
theorem near0 {g : Nat → Nat} {n : Nat} (hn : n ≤ 8) : Near (fun y => z_d0 y n) g (z_ri g n) n := by
  refine ⟨z_ri_D4 g hn, z_ri_df g hn, ?_, fun y hy h1 h2 => ?_⟩
  · have h := z_d0_le (g := z_ri g n) (z_ri_D4 g hn) (z_ri_Rs g hn)
    have e : z_df (z_ri g n) (z_ri g n) n = 0 := z_sum_zero (fun i _ => if_pos rfl)
    show z_d0 (z_ri g n) n = 0
    omega
  · rcases Nat.lt_or_ge (z_cd y n) (z_cd (z_ri g n) n) with q | q
    · exfalso
      have hr : Rs y n := z_d0_zero hn h2
      obtain ⟨j, hj, h3, h4⟩ := z_cd_first hy (z_ri_D4 g hn) q
      have h1 : z_df g y n = z_d0 g n := h1
      have e1 : z_df g y j = z_df g (z_ri g n) j := z_df_congr (fun _ _ => rfl) h4
      have e2 := z_ri_df g hn
      have e3 : z_sd g y n j = z_sd g (z_ri g n) n j := by unfold z_sd; omega
      have e4 := z_ri_sd g hn (n - j) j (by omega)
      obtain ⟨s1, s2, s3, s4, s5⟩ := z_ri_spec g hn j hj
      have hl : z_ls g n j ≤ y j := by
        unfold z_ls
        split
        · exact Nat.zero_le _
        · rw [← h4 (j - 1) (by omega)]
          exact hr (j - 1) j (by omega) hj
      have h5 := s4 (y j) hl h3
      have h6 := z_lower g hy hr (n - (j + 1)) (j + 1) (y j) (by omega) (fun i h7 h8 => hr j i (by omega) h8)
      have h7 := z_sd_s g y hj
      unfold z_cw at h5
      omega
    · exact q
