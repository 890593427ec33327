/-! the reference's counting of a row -/
theorem lN_1' (k : Nat) : lN k + (1 : Int64) = lN (k + 1) := lN_1 k
theorem lN_0' (k : Nat) : lN k + (0 : Int64) = lN k := by rw [show (0 : Int64) = lN 0 from rfl, lN_add]; rfl
theorem m_takeRow {n : Nat} (hn : n ≤ 8) (r i : Nat → Int32) : fX5_takeRow (nI n) r i = some (z_fl r i n) := by
  have h : fX5_takeRow_L2 FU (nI 0) (nI n) r (z_fl r i 0) = some (nI n, z_fl r i n) := lp_FU (fun fuel k => fX5_takeRow_L2 fuel (nI k) (nI n) r (z_fl r i k)) n _ (by omega) 0 (Nat.zero_le _)
    (by
      intro k fuel hk
      have c : ¬ nI n ≤ nI k := nI_ge hk (by omega)
      try dsimp only
      rw [fX5_takeRow_L2_s, if_neg c, gin_nI (by omega) (by decide), gin_nI (by omega) (by decide), nI_clamp (by omega), nI_1', z_fl_s])
    (by
      intro fuel
      try dsimp only
      rw [fX5_takeRow_L2_s, if_pos (nI_le (Nat.le_refl n) (by omega))])
  rw [z_fl_0] at h
  unfold fX5_takeRow
  exact (bd_of h).trans rfl
theorem m_fromEven {n : Nat} {f : Nat → Int32} {g : Nat → Nat} (hn : n ≤ 8) (hf : Rg f g n) : fX5_fromEven (nI n) f = some (nI (z_sum g n % 2)) := by
  have hb : z_sum g n < 2 ^ 31 := by have := z_sum4_lt hn (fun i hi => (hf i hi).1); omega
  have h : fX5_fromEven_L4 FU (nI (z_sum g 0)) (nI 0) (nI n) f = some (nI (z_sum g n), nI n) := lp_FU (fun fuel k => fX5_fromEven_L4 fuel (nI (z_sum g k)) (nI k) (nI n) f) n _ (by omega) 0 (Nat.zero_le _)
    (by
      intro k fuel hk
      have c : ¬ nI n ≤ nI k := nI_ge hk (by omega)
      try dsimp only
      rw [fX5_fromEven_L4_s, if_neg c, gin_nI (by omega) (by decide), nI_clamp (by omega), (hf k hk).2, nI_add, nI_1', z_sum_s])
    (by
      intro fuel
      try dsimp only
      rw [fX5_fromEven_L4_s, if_pos (nI_le (Nat.le_refl n) (by omega))])
  unfold fX5_fromEven
  refine (bd_of h).trans ?_
  show some (nI (z_sum g n) - nI (z_sum g n) / (2 : Int32) * (2 : Int32)) = _
  rw [nI_rem2 hb]
/-- mirrored pairs that differ -/
def z_mm (g : Nat → Nat) (n : Nat) : Nat := z_sum (fun i => if i < n - 1 - i ∧ g i ≠ g (n - 1 - i) then 1 else 0) n
theorem m_fromMirrored {n : Nat} {f : Nat → Int32} {g : Nat → Nat} (hn : n ≤ 8) (hf : Rg f g n) : fX5_fromMirrored (nI n) f = some (nI (z_mm g n)) := by
  have h : fX5_fromMirrored_L4 FU (nI (z_sum (fun i => if i < n - 1 - i ∧ g i ≠ g (n - 1 - i) then 1 else 0) 0)) (nI 0) (nI n) f = some (nI (z_mm g n), nI n) :=
    lp_FU (fun fuel k => fX5_fromMirrored_L4 fuel (nI (z_sum (fun i => if i < n - 1 - i ∧ g i ≠ g (n - 1 - i) then 1 else 0) k)) (nI k) (nI n) f) n _ (by omega) 0 (Nat.zero_le _)
    (by
      intro k fuel hk
      have c : ¬ nI n ≤ nI k := nI_ge hk (by omega)
      have b1 := hf k hk
      have b2 := hf (n - 1 - k) (by omega)
      try dsimp only
      rw [fX5_fromMirrored_L4_s, if_neg c, nI_m1' (by omega), nI_sub' (by omega), nI_1', nI_1', nI_add0, z_sum_s]
      by_cases e0 : k < n - 1 - k
      · rw [if_neg (nI_ge e0 (by omega)), gin_nI (by omega) (by decide), gin_nI (by omega) (by decide), nI_clamp (by omega), nI_clamp (by omega), b1.2, b2.2]
        by_cases e : g k = g (n - 1 - k)
        · rw [if_pos (by rw [← e]), if_neg (fun q => q.2 e)]; rfl
        · rw [if_neg (fun q => e ((nI_eq (by omega) (by omega)).mp q)), if_pos ⟨e0, e⟩]
      · rw [if_pos (nI_le (by omega) (by omega)), if_neg (fun q => e0 q.1)]; rfl)
    (by
      intro fuel
      try dsimp only
      rw [fX5_fromMirrored_L4_s, if_pos (nI_le (Nat.le_refl n) (by omega))]
      rfl)
  unfold fX5_fromMirrored
  exact (bd_of h).trans rfl
/-- the inner loop of countRow for kinds 1 and 2: nothing -/
theorem m_cr_in12 {n : Nat} {f : Nat → Int32} {k : Int32} (hn : n ≤ 8) (hn1 : 1 ≤ n) (h0 : ¬ k = 0) (h3 : ¬ k = 3) (i : Int32) (A B : Int64) : fX5_countRow_L99 FU k i (1 : Int32) (nI n) A B f = some (nI n, A, B) :=
  lp_FU2 (fun fuel j => fX5_countRow_L99 fuel k i (nI j) (nI n) A B f) n _ (by omega) 1 hn1
    (by
      intro j fuel _ hj
      have c : ¬ nI n ≤ nI j := nI_ge hj (by omega)
      try dsimp only
      rw [fX5_countRow_L99_s, if_neg c, if_neg h0, bd_s, if_neg h3, nI_1'])
    (by
      intro fuel
      try dsimp only
      rw [fX5_countRow_L99_s, if_pos (nI_le (Nat.le_refl n) (by omega))])
theorem m_cr_in0 {n : Nat} {f : Nat → Int32} {g : Nat → Nat} (hn : n ≤ 8) (hn1 : 1 ≤ n) (hf : Rg f g n) {i : Nat} (hi : i < n) (A B : Nat) : fX5_countRow_L99 FU (0 : Int32) (nI i) (1 : Int32) (nI n) (lN A) (lN B) f = some (nI n, lN (A + z_sum (fun j => if i < j ∧ g i ≤ g j then 1 else 0) n), lN (B + z_sum (fun j => if i < j then 1 else 0) n)) := by
  have h : fX5_countRow_L99 FU (0 : Int32) (nI i) (nI 1) (nI n) (lN (A + z_sum (fun j => if i < j ∧ g i ≤ g j then 1 else 0) 1)) (lN (B + z_sum (fun j => if i < j then 1 else 0) 1)) f = some (nI n, lN (A + z_sum (fun j => if i < j ∧ g i ≤ g j then 1 else 0) n), lN (B + z_sum (fun j => if i < j then 1 else 0) n)) :=
    lp_FU2 (fun fuel j => fX5_countRow_L99 fuel (0 : Int32) (nI i) (nI j) (nI n) (lN (A + z_sum (fun j => if i < j ∧ g i ≤ g j then 1 else 0) j)) (lN (B + z_sum (fun j => if i < j then 1 else 0) j)) f) n _ (by omega) 1 hn1
    (by
      intro j fuel _ hj
      have c : ¬ nI n ≤ nI j := nI_ge hj (by omega)
      have b1 := hf j hj
      have b2 := hf i hi
      try dsimp only
      rw [fX5_countRow_L99_s, if_neg c, if_pos (by rfl), nI_1', z_sum_s, z_sum_s]
      by_cases e0 : i < j
      · rw [if_neg (nI_ge e0 (by omega)), gin_nI (by omega) (by decide), gin_nI (by omega) (by decide), nI_clamp (by omega), nI_clamp (by omega), b1.2, b2.2, if_pos e0]
        by_cases e : g i ≤ g j
        · rw [if_neg (nI_nlt e (by omega)), bd_s, bd_s, if_neg (by decide), if_pos ⟨e0, e⟩, lN_1', lN_1']; rfl
        · rw [if_pos (nI_lt (by omega) (by omega)), bd_s, bd_s, if_neg (by decide), if_neg (fun q => e q.2), lN_1', lN_0']; rfl
      · rw [if_pos (nI_le (by omega) (by omega)), bd_s, if_neg (by decide), if_neg (fun q => e0 q.1), if_neg e0]; rfl)
    (by
      intro fuel
      try dsimp only
      rw [fX5_countRow_L99_s, if_pos (nI_le (Nat.le_refl n) (by omega))])
  have e1 : z_sum (fun j => if i < j ∧ g i ≤ g j then 1 else 0) 1 = 0 := z_sum_zero (fun j hj => if_neg (by omega))
  have e2 : z_sum (fun j => if i < j then 1 else 0) 1 = 0 := z_sum_zero (fun j hj => if_neg (by omega))
  rw [e1, e2] at h
  exact h
theorem m_cr_in3 {n : Nat} {f : Nat → Int32} {g : Nat → Nat} (hn : n ≤ 8) (hn1 : 1 ≤ n) (hf : Rg f g n) {i : Nat} (hi : i < n) (A B : Nat) : fX5_countRow_L99 FU (3 : Int32) (nI i) (1 : Int32) (nI n) (lN A) (lN B) f = some (nI n, lN (A + z_sum (fun j => if 1 ≤ j ∧ g i = g ((i + j) % n) then 1 else 0) n), lN (B + z_sum (fun j => if 1 ≤ j then 1 else 0) n)) := by
  have h : fX5_countRow_L99 FU (3 : Int32) (nI i) (nI 1) (nI n) (lN (A + z_sum (fun j => if 1 ≤ j ∧ g i = g ((i + j) % n) then 1 else 0) 1)) (lN (B + z_sum (fun j => if 1 ≤ j then 1 else 0) 1)) f = some (nI n, lN (A + z_sum (fun j => if 1 ≤ j ∧ g i = g ((i + j) % n) then 1 else 0) n), lN (B + z_sum (fun j => if 1 ≤ j then 1 else 0) n)) :=
    lp_FU2 (fun fuel j => fX5_countRow_L99 fuel (3 : Int32) (nI i) (nI j) (nI n) (lN (A + z_sum (fun j => if 1 ≤ j ∧ g i = g ((i + j) % n) then 1 else 0) j)) (lN (B + z_sum (fun j => if 1 ≤ j then 1 else 0) j)) f) n _ (by omega) 1 hn1
    (by
      intro j fuel hj1 hj
      have c : ¬ nI n ≤ nI j := nI_ge hj (by omega)
      have hm : (i + j) % n < n := Nat.mod_lt _ (by omega)
      have b1 := hf ((i + j) % n) hm
      have b2 := hf i hi
      have em : nI i + nI j - (nI i + nI j) / nI n * nI n = nI ((i + j) % n) := by rw [nI_add]; exact pk_rem (by omega) (by omega) (by omega)
      try dsimp only
      rw [fX5_countRow_L99_s, if_neg c, if_neg (by decide), bd_s, if_pos (by rfl), nI_1', z_sum_s, z_sum_s, gin_nI (by omega) (by decide), gnz_of (nI_ne0 (by omega) (by omega)), em, gin_nI (by omega) (by decide), nI_clamp (by omega), nI_clamp (by omega), b1.2, b2.2, if_pos hj1]
      by_cases e : g i = g ((i + j) % n)
      · rw [if_pos (by rw [← e]), bd_s, if_pos ⟨hj1, e⟩]
        show fX5_countRow_L99 fuel _ _ _ _ (lN _ + 1) (lN _ + 1) f = _
        rw [lN_1', lN_1']; rfl
      · rw [if_neg (fun q => e ((nI_eq (by omega) (by omega)).mp q)), bd_s, if_neg (fun q => e q.2)]
        show fX5_countRow_L99 fuel _ _ _ _ (lN _ + 0) (lN _ + 1) f = _
        rw [lN_1', lN_0']; rfl)
    (by
      intro fuel
      try dsimp only
      rw [fX5_countRow_L99_s, if_pos (nI_le (Nat.le_refl n) (by omega))])
  have e1 : z_sum (fun j => if 1 ≤ j ∧ g i = g ((i + j) % n) then 1 else 0) 1 = 0 := z_sum_zero (fun j hj => if_neg (by omega))
  have e2 : z_sum (fun j => if 1 ≤ j then 1 else 0) 1 = 0 := z_sum_zero (fun j hj => if_neg (by omega))
  rw [e1, e2] at h
  exact h
/-- around: the other places, in another order -/
theorem z_around (g : Nat → Nat) {n i : Nat} (h2 : 2 ≤ n) (h8 : n ≤ 8) (hi : i < n) : z_sum (fun j => if 1 ≤ j ∧ g i = g ((i + j) % n) then 1 else 0) n = z_sum (fun j => if i ≠ j ∧ g i = g j then 1 else 0) n := by
  obtain ⟨e, he⟩ : ∃ e : Nat → Nat, ∀ j, (if g i = g j then 1 else 0) = e j := ⟨fun j => if g i = g j then 1 else 0, fun _ => rfl⟩
  have a1 : ∀ j, (if 1 ≤ j ∧ g i = g ((i + j) % n) then 1 else 0) = if 1 ≤ j then e ((i + j) % n) else 0 := by
    intro j
    by_cases q : 1 ≤ j
    · rw [if_pos q, ← he]; simp [q]
    · rw [if_neg q, if_neg (fun z => q z.1)]
  have a2 : ∀ j, (if i ≠ j ∧ g i = g j then 1 else 0) = if i ≠ j then e j else 0 := by
    intro j
    by_cases q : i ≠ j
    · rw [if_pos q, ← he]; simp [q]
    · rw [if_neg q, if_neg (fun z => q z.1)]
  rw [z_sum_congr (fun j _ => a1 j), z_sum_congr (fun j _ => a2 j)]
  clear a1 a2 he
  rcases (show n = 2 ∨ n = 3 ∨ n = 4 ∨ n = 5 ∨ n = 6 ∨ n = 7 ∨ n = 8 by omega) with rfl | rfl | rfl | rfl | rfl | rfl | rfl
  · rcases (show i = 0 ∨ i = 1 by omega) with rfl | rfl <;> simp [z_sum]
  · rcases (show i = 0 ∨ i = 1 ∨ i = 2 by omega) with rfl | rfl | rfl <;> simp [z_sum] <;> omega
  · rcases (show i = 0 ∨ i = 1 ∨ i = 2 ∨ i = 3 by omega) with rfl | rfl | rfl | rfl <;> simp [z_sum] <;> omega
  · rcases (show i = 0 ∨ i = 1 ∨ i = 2 ∨ i = 3 ∨ i = 4 by omega) with rfl | rfl | rfl | rfl | rfl <;> simp [z_sum] <;> omega
  · rcases (show i = 0 ∨ i = 1 ∨ i = 2 ∨ i = 3 ∨ i = 4 ∨ i = 5 by omega) with rfl | rfl | rfl | rfl | rfl | rfl <;> simp [z_sum] <;> omega
  · rcases (show i = 0 ∨ i = 1 ∨ i = 2 ∨ i = 3 ∨ i = 4 ∨ i = 5 ∨ i = 6 by omega) with rfl | rfl | rfl | rfl | rfl | rfl | rfl <;> simp [z_sum] <;> omega
  · rcases (show i = 0 ∨ i = 1 ∨ i = 2 ∨ i = 3 ∨ i = 4 ∨ i = 5 ∨ i = 6 ∨ i = 7 by omega) with rfl | rfl | rfl | rfl | rfl | rfl | rfl | rfl <;> simp [z_sum] <;> omega
theorem z_look0 {n : Nat} (h2 : 2 ≤ n) (h8 : n ≤ 8) : z_sum (fun i => z_sum (fun j => if i < j then 1 else 0) n) n = n * (n - 1) / 2 := by
  rcases (show n = 2 ∨ n = 3 ∨ n = 4 ∨ n = 5 ∨ n = 6 ∨ n = 7 ∨ n = 8 by omega) with rfl | rfl | rfl | rfl | rfl | rfl | rfl <;> decide
theorem z_look3 {n : Nat} (h2 : 2 ≤ n) (h8 : n ≤ 8) : z_sum (fun _ => z_sum (fun j => if 1 ≤ j then 1 else 0) n) n = n * (n - 1) := by
  rcases (show n = 2 ∨ n = 3 ∨ n = 4 ∨ n = 5 ∨ n = 6 ∨ n = 7 ∨ n = 8 by omega) with rfl | rfl | rfl | rfl | rfl | rfl | rfl <;> decide
theorem z_sum_1 (n : Nat) : z_sum (fun _ => 1) n = n := by
  induction n with
  | zero => rfl
  | succ n ih => rw [z_sum_s, ih]
theorem m_countRow {n kind : Nat} {f : Nat → Int32} {g : Nat → Nat} (h2 : 2 ≤ n) (hn : n ≤ 8) (hk : kind < 4) (hf : Rg f g n) (A B : Int64) : fX5_countRow (nI n) A B f (nI kind) = some (lN (z_pass g n kind), lN (z_look n kind)) := by
  unfold fX5_countRow
  rcases (show kind = 0 ∨ kind = 1 ∨ kind = 2 ∨ kind = 3 by omega) with rfl | rfl | rfl | rfl
  · have h : fX5_countRow_L38 FU (nI 0) (nI 0) (nI n) (lN (z_sum (fun i => z_sum (fun j => if i < j ∧ g i ≤ g j then 1 else 0) n) 0)) (lN (z_sum (fun i => z_sum (fun j => if i < j then 1 else 0) n) 0)) f = some (nI n, lN (z_rp g n), lN (z_sum (fun i => z_sum (fun j => if i < j then 1 else 0) n) n)) :=
      lp_FU (fun fuel k => fX5_countRow_L38 fuel (nI 0) (nI k) (nI n) (lN (z_sum (fun i => z_sum (fun j => if i < j ∧ g i ≤ g j then 1 else 0) n) k)) (lN (z_sum (fun i => z_sum (fun j => if i < j then 1 else 0) n) k)) f) n _ (by omega) 0 (by omega)
      (by
        intro k fuel hk
        have c : ¬ nI n ≤ nI k := nI_ge hk (by omega)
        try dsimp only
        rw [fX5_countRow_L38_s, if_neg c, if_neg (by decide), bd_s, show nI 0 = (0 : Int32) from rfl, bd_of (m_cr_in0 hn (by omega) hf hk _ _), nI_1', z_sum_s, z_sum_s])
      (by
        intro fuel
        try dsimp only
        rw [fX5_countRow_L38_s, if_pos (nI_le (Nat.le_refl n) (by omega))]
        rfl)
    rw [if_neg (by decide), bd_s]
    refine (bd_of h).trans ?_
    rw [z_look0 h2 hn]
    rfl
  · have h : fX5_countRow_L38 FU (nI 1) (nI 0) (nI n) (lN (z_sum (fun i => if g i = g (n - 1 - i) then 1 else 0) 0)) (lN (z_sum (fun _ => 1) 0)) f = some (nI n, lN (z_mp g n), lN (z_sum (fun _ => 1) n)) :=
      lp_FU (fun fuel k => fX5_countRow_L38 fuel (nI 1) (nI k) (nI n) (lN (z_sum (fun i => if g i = g (n - 1 - i) then 1 else 0) k)) (lN (z_sum (fun _ => 1) k)) f) n _ (by omega) 0 (by omega)
      (by
        intro k fuel hk
        have c : ¬ nI n ≤ nI k := nI_ge hk (by omega)
        have b1 := hf k hk
        have b2 := hf (n - 1 - k) (by omega)
        try dsimp only
        rw [fX5_countRow_L38_s, if_neg c, if_pos (by rfl), nI_m1' (by omega), nI_sub' (by omega), gin_nI (by omega) (by decide), gin_nI (by omega) (by decide), nI_clamp (by omega), nI_clamp (by omega), b1.2, b2.2, z_sum_s, z_sum_s]
        by_cases e : g k = g (n - 1 - k)
        · rw [if_pos (by rw [← e]), bd_s, bd_s, bd_of (m_cr_in12 hn (by omega) (by decide) (by decide) _ _ _), nI_1', if_pos e, lN_1', lN_1']
        · rw [if_neg (fun q => e ((nI_eq (by omega) (by omega)).mp q)), bd_s, bd_s, bd_of (m_cr_in12 hn (by omega) (by decide) (by decide) _ _ _), nI_1', if_neg e, lN_0', lN_1']; rfl)
      (by
        intro fuel
        try dsimp only
        rw [fX5_countRow_L38_s, if_pos (nI_le (Nat.le_refl n) (by omega))]
        rfl)
    rw [if_neg (by decide), bd_s]
    refine (bd_of h).trans ?_
    rw [z_sum_1]
    rfl
  · have h : ∀ (A B : Int64), fX5_countRow_L38 FU (nI 2) (nI 0) (nI n) A B f = some (nI n, A, B) := fun A B =>
      lp_FU (fun fuel k => fX5_countRow_L38 fuel (nI 2) (nI k) (nI n) A B f) n _ (by omega) 0 (by omega)
      (by
        intro k fuel hk
        have c : ¬ nI n ≤ nI k := nI_ge hk (by omega)
        try dsimp only
        rw [fX5_countRow_L38_s, if_neg c, if_neg (by decide), bd_s, bd_of (m_cr_in12 hn (by omega) (by decide) (by decide) _ _ _), nI_1'])
      (by
        intro fuel
        try dsimp only
        rw [fX5_countRow_L38_s, if_pos (nI_le (Nat.le_refl n) (by omega))])
    rw [if_pos (by rfl), bd_of (m_fromEven hn hf)]
    show bd (bd (if nI (z_sum g n % 2) = 0 then some (1 : Int64) else some 0) fun q3 => some (q3, (1 : Int64))) _ = some (lN (if z_sum g n % 2 = 0 then 1 else 0), lN 1)
    by_cases e : z_sum g n % 2 = 0
    · rw [if_pos e, e, if_pos (by rfl), bd_s, bd_s]
      exact (bd_of (h _ _)).trans rfl
    · rw [if_neg e, if_neg (show ¬ nI (z_sum g n % 2) = (0 : Int32) from fun q => e ((nI_eq (b := 0) (by omega) (by decide)).mp q)), bd_s, bd_s]
      exact (bd_of (h _ _)).trans rfl
  · have h : fX5_countRow_L38 FU (nI 3) (nI 0) (nI n) (lN (z_sum (fun i => z_sum (fun j => if i ≠ j ∧ g i = g j then 1 else 0) n) 0)) (lN (z_sum (fun _ => z_sum (fun j => if 1 ≤ j then 1 else 0) n) 0)) f = some (nI n, lN (z_ap g n), lN (z_sum (fun _ => z_sum (fun j => if 1 ≤ j then 1 else 0) n) n)) :=
      lp_FU (fun fuel k => fX5_countRow_L38 fuel (nI 3) (nI k) (nI n) (lN (z_sum (fun i => z_sum (fun j => if i ≠ j ∧ g i = g j then 1 else 0) n) k)) (lN (z_sum (fun _ => z_sum (fun j => if 1 ≤ j then 1 else 0) n) k)) f) n _ (by omega) 0 (by omega)
      (by
        intro k fuel hk
        have c : ¬ nI n ≤ nI k := nI_ge hk (by omega)
        try dsimp only
        rw [fX5_countRow_L38_s, if_neg c, if_neg (by decide), bd_s, show nI 3 = (3 : Int32) from rfl, bd_of (m_cr_in3 hn (by omega) hf hk _ _), nI_1', z_sum_s, z_sum_s, z_around g h2 hn hk])
      (by
        intro fuel
        try dsimp only
        rw [fX5_countRow_L38_s, if_pos (nI_le (Nat.le_refl n) (by omega))]
        rfl)
    rw [if_neg (by decide), bd_s]
    refine (bd_of h).trans ?_
    rw [z_look3 h2 hn]
    rfl
