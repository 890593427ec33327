/-! kinds 1 and 2: the nearest -/
def Near (fk : (Nat → Nat) → Nat) (g h : Nat → Nat) (n : Nat) : Prop := D4 h n ∧ z_df g h n = fk g ∧ fk h = 0 ∧ ∀ y, D4 y n → z_df g y n = fk g → fk y = 0 → z_cd h n ≤ z_cd y n
theorem z_sum_add (p q : Nat → Nat) (n : Nat) : z_sum (fun i => p i + q i) n = z_sum p n + z_sum q n := by
  induction n with
  | zero => rfl
  | succ n ih => rw [z_sum_s, z_sum_s, z_sum_s, ih]; omega
theorem z_sum_rev (a : Nat → Nat) {n : Nat} (hn : n ≤ 8) : z_sum (fun i => a (n - 1 - i)) n = z_sum a n := by
  rcases (show n = 0 ∨ n = 1 ∨ n = 2 ∨ n = 3 ∨ n = 4 ∨ n = 5 ∨ n = 6 ∨ n = 7 ∨ n = 8 by omega) with rfl | rfl | rfl | rfl | rfl | rfl | rfl | rfl | rfl <;> simp [z_sum] <;> omega
def z_mr (g : Nat → Nat) (n i : Nat) : Nat := if g (n - 1 - i) < g i then g (n - 1 - i) else g i
theorem z_mr_pair (g : Nat → Nat) {n i : Nat} (hi : i < n) : (if g i = z_mr g n i then 0 else 1) + (if g (n - 1 - i) = z_mr g n (n - 1 - i) then 0 else 1) = (if i < n - 1 - i ∧ g i ≠ g (n - 1 - i) then 1 else 0) + (if n - 1 - i < n - 1 - (n - 1 - i) ∧ g (n - 1 - i) ≠ g (n - 1 - (n - 1 - i)) then 1 else 0) := by
  have e : n - 1 - (n - 1 - i) = i := by omega
  unfold z_mr
  rw [e]
  generalize hj : n - 1 - i = j at *
  by_cases q : j = i
  · subst q
    simp
  · rcases Nat.lt_trichotomy (g i) (g j) with w | w | w
    · rw [if_neg (show ¬ g j < g i by omega), if_pos w, if_pos rfl, if_neg (show ¬ g j = g i by omega)]
      rcases Nat.lt_or_gt_of_ne q with z | z
      · rw [if_neg (by omega), if_pos ⟨z, by omega⟩]
      · rw [if_pos ⟨z, by omega⟩, if_neg (by omega)]
    · rw [w]
      simp
    · rw [if_pos w, if_neg (show ¬ g i < g j by omega), if_neg (show ¬ g i = g j by omega), if_pos rfl]
      rcases Nat.lt_or_gt_of_ne q with z | z
      · rw [if_neg (by omega), if_pos ⟨z, by omega⟩]
      · rw [if_pos ⟨z, by omega⟩, if_neg (by omega)]
theorem z_mm_zero {y : Nat → Nat} {n : Nat} (h : z_mm y n = 0) {i : Nat} (hi : i < n) : y i = y (n - 1 - i) := by
  have all : ∀ i, i < n → (if i < n - 1 - i ∧ y i ≠ y (n - 1 - i) then 1 else 0) = 0 := by
    intro i hi
    rcases Nat.eq_zero_or_pos (if i < n - 1 - i ∧ y i ≠ y (n - 1 - i) then 1 else 0) with q | q
    · exact q
    · have := z_sum_lt (p := fun _ => 0) (q := fun i => if i < n - 1 - i ∧ y i ≠ y (n - 1 - i) then 1 else 0) (n := n) (j := i) (fun _ _ => Nat.zero_le _) hi q
      have h2 : z_sum (fun _ => 0) n = 0 := z_sum_zero (fun _ _ => rfl)
      unfold z_mm at h
      omega
  have one : ∀ i, i < n → i < n - 1 - i → y i = y (n - 1 - i) := by
    intro i hi h2
    have := all i hi
    by_cases q : y i = y (n - 1 - i)
    · exact q
    · rw [if_pos ⟨h2, q⟩] at this; omega
  rcases Nat.lt_trichotomy i (n - 1 - i) with q | q | q
  · exact one i hi q
  · rw [← q]
  · have := one (n - 1 - i) (by omega) (by omega)
    rw [show n - 1 - (n - 1 - i) = i by omega] at this
    exact this.symm
theorem near1 {g : Nat → Nat} {n : Nat} (hn : n ≤ 8) (hg : D4 g n) : Near (fun y => z_mm y n) g (z_mr g n) n := by
  have hb2 : z_sum (fun i => (if i < n - 1 - i ∧ g i ≠ g (n - 1 - i) then 1 else 0) + (if n - 1 - i < n - 1 - (n - 1 - i) ∧ g (n - 1 - i) ≠ g (n - 1 - (n - 1 - i)) then 1 else 0)) n = 2 * z_mm g n := by
    rw [z_sum_add, z_sum_rev (fun i => if i < n - 1 - i ∧ g i ≠ g (n - 1 - i) then 1 else 0) hn]
    unfold z_mm
    omega
  have hd2 : ∀ y : Nat → Nat, z_sum (fun i => (if g i = y i then 0 else 1) + (if g (n - 1 - i) = y (n - 1 - i) then 0 else 1)) n = 2 * z_df g y n := by
    intro y
    rw [z_sum_add, z_sum_rev (fun i => if g i = y i then 0 else 1) hn]
    unfold z_df
    omega
  refine ⟨fun i hi => ?_, ?_, ?_, fun y hy h1 h2 => ?_⟩
  · unfold z_mr
    have a1 := hg i hi
    have a2 := hg (n - 1 - i) (by omega)
    split <;> omega
  · have := z_sum_congr (n := n) (fun i hi => z_mr_pair g hi)
    have h3 := hd2 (z_mr g n)
    show z_df g (z_mr g n) n = z_mm g n
    omega
  · show z_mm (z_mr g n) n = 0
    refine z_sum_zero (fun i hi => if_neg (fun q => q.2 ?_))
    unfold z_mr
    rw [show n - 1 - (n - 1 - i) = i by omega]
    split <;> (try split) <;> omega
  · rcases Nat.lt_or_ge (z_cd y n) (z_cd (z_mr g n) n) with q | q
    · exfalso
      have hm : D4 (z_mr g n) n := fun i hi => by
        unfold z_mr
        have a1 := hg i hi
        have a2 := hg (n - 1 - i) (by omega)
        split <;> omega
      obtain ⟨j, hj, h3, -⟩ := z_cd_first hy hm q
      have hs := z_sum_lt (n := n) (j := j) (p := fun i => (if i < n - 1 - i ∧ g i ≠ g (n - 1 - i) then 1 else 0) + (if n - 1 - i < n - 1 - (n - 1 - i) ∧ g (n - 1 - i) ≠ g (n - 1 - (n - 1 - i)) then 1 else 0)) (q := fun i => (if g i = y i then 0 else 1) + (if g (n - 1 - i) = y (n - 1 - i) then 0 else 1)) (fun i hi => by
          have e := z_mm_zero h2 hi
          have e1 : n - 1 - (n - 1 - i) = i := by omega
          show _ + _ ≤ _ + _
          rw [e1, ← e]
          by_cases w : g i = g (n - 1 - i)
          · rw [if_neg (fun z => z.2 w), if_neg (fun z => z.2 w.symm)]; exact Nat.zero_le _
          · by_cases w2 : g i = y i
            · rw [if_neg (show ¬ g (n - 1 - i) = y i by omega)]
              by_cases w3 : i < n - 1 - i
              · rw [if_neg (show ¬ (n - 1 - i < i ∧ g (n - 1 - i) ≠ g i) by omega)]; split <;> (try split) <;> omega
              · rw [if_neg (show ¬ (i < n - 1 - i ∧ g i ≠ g (n - 1 - i)) by omega)]; split <;> (try split) <;> omega
            · rw [if_neg w2]
              by_cases w3 : i < n - 1 - i
              · rw [if_neg (show ¬ (n - 1 - i < i ∧ g (n - 1 - i) ≠ g i) by omega)]; split <;> (try split) <;> omega
              · rw [if_neg (show ¬ (i < n - 1 - i ∧ g i ≠ g (n - 1 - i)) by omega)]; split <;> (try split) <;> omega) hj (by
          have e := z_mm_zero h2 hj
          have e1 : n - 1 - (n - 1 - j) = j := by omega
          have m1 : y j < g j ∧ y j < g (n - 1 - j) := by
            unfold z_mr at h3
            split at h3 <;> omega
          show _ + _ < _ + _
          rw [e1, ← e, if_neg (show ¬ g j = y j by omega), if_neg (show ¬ g (n - 1 - j) = y j by omega)]
          by_cases w3 : j < n - 1 - j
          · rw [if_neg (show ¬ (n - 1 - j < j ∧ g (n - 1 - j) ≠ g j) by omega)]; split <;> omega
          · rw [if_neg (show ¬ (j < n - 1 - j ∧ g j ≠ g (n - 1 - j)) by omega)]; split <;> omega)
      have h4 := hd2 y
      have h5 : z_df g y n = z_mm g n := h1
      omega
    · exact q
def z_fp (g : Nat → Nat) (n : Nat) : Option Nat := z_fd (fun k => decide (0 < g k)) n 0
/-- the first positive digit lessened to the other parity, where the digits together are odd -/
def z_ev (g : Nat → Nat) (n i : Nat) : Nat := if z_sum g n % 2 = 0 then g i else match z_fp g n with
  | some p => if i = p then (if g p = 2 then 1 else 0) else g i
  | none => g i
theorem near2 {g : Nat → Nat} {n : Nat} (hg : D4 g n) : Near (fun y => z_sum y n % 2) g (z_ev g n) n := by
  by_cases ev : z_sum g n % 2 = 0
  · have eh : z_ev g n = g := by funext i; unfold z_ev; rw [if_pos ev]
    rw [eh]
    have e0 : z_df g g n = 0 := z_sum_zero (fun i _ => if_pos rfl)
    refine ⟨hg, by rw [e0]; exact ev.symm, ev, fun y hy h1 _ => ?_⟩
    have h1 : z_df g y n = z_sum g n % 2 := h1
    rw [ev] at h1
    rw [z_cd_congr (z_df_zero h1)]
    exact Nat.le_refl _
  · have od : z_sum g n % 2 = 1 := by omega
    cases hp : z_fp g n with
    | none =>
      exfalso
      have hz := z_fd_none hp
      have : z_sum g n = 0 := z_sum_zero (fun i hi => by have := hz i (by omega) (by omega); simpa using this)
      omega
    | some p =>
      obtain ⟨_, p1, p2, p3⟩ := z_fd_some hp
      have p4 : 0 < g p := by simpa using p2
      have p5 : ∀ i, i < p → g i = 0 := fun i hi => by have := p3 i (by omega) hi; simpa using this
      have p6 : p < n := by omega
      have p7 := hg p p6
      have eh : ∀ i, z_ev g n i = if i = p then (if g p = 2 then 1 else 0) else g i := by
        intro i
        unfold z_ev
        rw [if_neg ev, hp]
      have ep : z_ev g n p = if g p = 2 then 1 else 0 := by rw [eh, if_pos rfl]
      have eo : ∀ i, i ≠ p → z_ev g n i = g i := fun i hi => by rw [eh, if_neg hi]
      have hD : D4 (z_ev g n) n := fun i hi => by
        rw [eh]
        have := hg i hi
        split
        · split <;> omega
        · exact this
      have edf : z_df g (z_ev g n) n = 1 := by
        have h0 : z_sum (fun i => if g i = z_ev g n i then 0 else 1) n + (fun i => if g i = g i then 0 else 1) p = z_sum (fun i => if g i = g i then 0 else 1) n + (fun i => if g i = z_ev g n i then 0 else 1) p := z_sum_upd (y := fun i => if g i = z_ev g n i then 0 else 1) (g := fun i => if g i = g i then 0 else 1) p6 (fun i hi hne => by show (if g i = z_ev g n i then 0 else 1) = (if g i = g i then 0 else 1); rw [eo i hne])
        have h1 : z_sum (fun i => if g i = g i then 0 else 1) n = 0 := z_sum_zero (fun i _ => if_pos rfl)
        have h2 : ¬ g p = z_ev g n p := by rw [ep]; split <;> omega
        have h3 : (if g p = z_ev g n p then 0 else 1) = 1 := if_neg h2
        have h4 : (if g p = g p then 0 else 1) = 0 := if_pos rfl
        have h0' : z_sum (fun i => if g i = z_ev g n i then 0 else 1) n + (if g p = g p then 0 else 1) = z_sum (fun i => if g i = g i then 0 else 1) n + (if g p = z_ev g n p then 0 else 1) := h0
        unfold z_df
        omega
      have esum := z_sum_upd (y := z_ev g n) (g := g) p6 (fun i _ hne => eo i hne)
      refine ⟨hD, by rw [edf]; exact od.symm, ?_, fun y hy h1 h2 => ?_⟩
      · show z_sum (z_ev g n) n % 2 = 0
        rw [ep] at esum
        split at esum <;> omega
      · rcases Nat.lt_or_ge (z_cd y n) (z_cd (z_ev g n) n) with q | q
        · exfalso
          obtain ⟨j, hj, h3, h4⟩ := z_cd_first hy hD q
          have h1 : z_df g y n = 1 := by rw [← od]; exact h1
          have uniq : ∀ a b, a < n → b < n → g a ≠ y a → g b ≠ y b → a = b := by
            intro a b ha hb q1 q2
            by_cases e : a = b
            · exact e
            · have h9 : (if g a = y a then 0 else 1) + (if g b = y b then 0 else 1) ≤ z_sum (fun i => if g i = y i then 0 else 1) n := z_sum_two (f := fun i => if g i = y i then 0 else 1) ha hb e
              rw [if_neg q1, if_neg q2] at h9
              unfold z_df at h1
              omega
          by_cases ej : j = p
          · subst ej
            rw [ep] at h3
            have g2 : g j = 2 ∧ y j = 0 := by split at h3 <;> omega
            have hs := z_sum_upd (y := y) (g := g) hj (fun i hi hne => by
              by_cases w : g i = y i
              · exact w.symm
              · exact absurd (uniq i j hi hj w (by omega)) hne)
            have h2 : z_sum y n % 2 = 0 := h2
            omega
          · rw [eo j ej] at h3
            rcases Nat.lt_or_gt_of_ne ej with w | w
            · have := p5 j w
              omega
            · have h5 := h4 p w
              rw [ep] at h5
              have := uniq j p hj p6 (by omega) (by rw [h5]; split <;> omega)
              omega
        · exact q
