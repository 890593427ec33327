/-! rows: what each method of a row, and the reference's counting of a row, answers, in numbers -/
theorem bd_s {α β : Type} (a : α) (k : α → Option β) : bd (some a) k = k a := rfl
theorem z_sum_zero {g : Nat → Nat} {n : Nat} (h : ∀ i, i < n → g i = 0) : z_sum g n = 0 := by
  induction n with
  | zero => rfl
  | succ n ih => rw [z_sum_s, ih (fun i hi => h i (by omega)), h n (by omega)]
theorem z_nle {a b : Nat} (h : a < b) (hb : b < 2 ^ 31) : ¬ nI b ≤ nI a := nI_ge h hb
theorem z_eq_iff {a b : Nat} (ha : a < 2 ^ 31) (hb : b < 2 ^ 31) : nI a = nI b ↔ a = b := nI_eq ha hb
def z_df (g h : Nat → Nat) (n : Nat) : Nat := z_sum (fun i => if g i = h i then 0 else 1) n
def z_rp (g : Nat → Nat) (n : Nat) : Nat := z_sum (fun i => z_sum (fun j => if i < j ∧ g i ≤ g j then 1 else 0) n) n
def z_mp (g : Nat → Nat) (n : Nat) : Nat := z_sum (fun i => if g i = g (n - 1 - i) then 1 else 0) n
def z_ap (g : Nat → Nat) (n : Nat) : Nat := z_sum (fun i => z_sum (fun j => if i ≠ j ∧ g i = g j then 1 else 0) n) n
def z_pass (g : Nat → Nat) (n kind : Nat) : Nat := if kind = 0 then z_rp g n else if kind = 1 then z_mp g n else if kind = 2 then (if z_sum g n % 2 = 0 then 1 else 0) else z_ap g n
def z_look (n kind : Nat) : Nat := if kind = 0 then n * (n - 1) / 2 else if kind = 1 then n else if kind = 2 then 1 else n * (n - 1)
theorem m_clear (s : Int32) (f : Nat → Int32) (p : Int32) : fX2_clear s f p = some (p, z_fl (fun _ => 0) f 8) := by
  have h : fX2_clear_L7 FU (nI 0) (z_fl (fun _ => 0) f 0) = some (nI 8, z_fl (fun _ => 0) f 8) := lp_FU (fun fuel k => fX2_clear_L7 fuel (nI k) (z_fl (fun _ => 0) f k)) 8 _ (by decide) 0 (by decide)
    (by
      intro k fuel hk
      have c : ¬ (8 : Int32) ≤ nI k := nI_ge hk (by decide)
      try dsimp only
      rw [fX2_clear_L7_s, if_neg c, gin_nI hk (by decide), nI_clamp (by omega), nI_1']
      exact congrArg (fun z => fX2_clear_L7 fuel (nI (k + 1)) z) (z_fl_s' _ _ _ _ rfl))
    (by
      intro fuel
      try dsimp only
      rw [fX2_clear_L7_s, if_pos (by decide)])
  rw [z_fl_0] at h
  unfold fX2_clear
  exact (bd_of h).trans rfl
theorem m_become (s : Int32) (f : Nat → Int32) (s2 : Int32) (o : Nat → Int32) : fX2_become s f s2 o = some (s2, z_fl o f 8) := by
  have h : fX2_become_L10 FU (nI 0) (z_fl o f 0) o = some (nI 8, z_fl o f 8) := lp_FU (fun fuel k => fX2_become_L10 fuel (nI k) (z_fl o f k) o) 8 _ (by decide) 0 (by decide)
    (by
      intro k fuel hk
      have c : ¬ (8 : Int32) ≤ nI k := nI_ge hk (by decide)
      try dsimp only
      rw [fX2_become_L10_s, if_neg c, gin_nI hk (by decide), gin_nI hk (by decide), nI_clamp (by omega), nI_1', z_fl_s])
    (by
      intro fuel
      try dsimp only
      rw [fX2_become_L10_s, if_pos (by decide)])
  rw [z_fl_0] at h
  unfold fX2_become
  exact (bd_of h).trans rfl
theorem m_total {n : Nat} {f : Nat → Int32} {g : Nat → Nat} (hn : n ≤ 8) (hf : Rg f g n) : fX2_total (nI n) f = some (nI (z_sum g n)) := by
  have h : fX2_total_L4 FU (nI (z_sum g 0)) (nI 0) (nI n) f = some (nI (z_sum g n), nI n) := lp_FU (fun fuel k => fX2_total_L4 fuel (nI (z_sum g k)) (nI k) (nI n) f) n _ (by omega) 0 (Nat.zero_le _)
    (by
      intro k fuel hk
      have c : ¬ nI n ≤ nI k := nI_ge hk (by omega)
      try dsimp only
      rw [fX2_total_L4_s, if_neg c, gin_nI (by omega) (by decide), nI_clamp (by omega), (hf k hk).2, nI_add, nI_1', z_sum_s])
    (by
      intro fuel
      try dsimp only
      rw [fX2_total_L4_s, if_pos (nI_le (Nat.le_refl n) (by omega))])
  unfold fX2_total
  exact (bd_of h).trans rfl
theorem m_differing {n : Nat} {f o : Nat → Int32} {g h : Nat → Nat} (hn : n ≤ 8) (hf : Rg f g n) (ho : Rg o h n) : fX2_differing (nI n) f o = some (nI (z_df g h n)) := by
  have hh : fX2_differing_L4 FU (nI (z_df g h 0)) (nI 0) (nI n) f o = some (nI (z_df g h n), nI n) := lp_FU (fun fuel k => fX2_differing_L4 fuel (nI (z_df g h k)) (nI k) (nI n) f o) n _ (by omega) 0 (Nat.zero_le _)
    (by
      intro k fuel hk
      have c : ¬ nI n ≤ nI k := nI_ge hk (by omega)
      have b1 := hf k hk
      have b2 := ho k hk
      try dsimp only
      rw [fX2_differing_L4_s, if_neg c, gin_nI (by omega) (by decide), gin_nI (by omega) (by decide), nI_clamp (by omega), b1.2, b2.2, nI_1']
      have es : z_df g h (k + 1) = z_df g h k + (if g k = h k then 0 else 1) := rfl
      rw [es]
      by_cases e : g k = h k
      · rw [if_pos (by rw [e]), if_pos e]; rfl
      · rw [if_neg (fun q => e ((nI_eq (by omega) (by omega)).mp q)), if_neg e, nI_1'])
    (by
      intro fuel
      try dsimp only
      rw [fX2_differing_L4_s, if_pos (nI_le (Nat.le_refl n) (by omega))])
  unfold fX2_differing
  exact (bd_of hh).trans rfl
/-- ahead by the first place that differs -/
def z_lt (g h : Nat → Nat) (n : Nat) : Bool := match z_fd (fun k => decide (g k ≠ h k)) n 0 with
  | some j => decide (g j < h j)
  | none => false
theorem m_isAheadOf {n : Nat} {f o : Nat → Int32} {g h : Nat → Nat} (hn : n ≤ 8) (hf : Rg f g n) (ho : Rg o h n) : fX2_isAheadOf (nI n) f o = some (if z_lt g h n = true then 1 else 0) := by
  have hh : fX2_isAheadOf_L2 FU (nI 0) (nI n) f o = some (z_el (fun k => (.inl (if h k ≤ g k then 0 else 1) : Int32 ⊕ Int32)) (.inr (nI n)) (z_fd (fun k => decide (g k ≠ h k)) n 0)) :=
    lp_findFU (fun fuel k => fX2_isAheadOf_L2 fuel (nI k) (nI n) f o) n (by omega) _ _ _
    (by
      intro k fuel hk hp
      have c : ¬ nI n ≤ nI k := nI_ge hk (by omega)
      have b1 := hf k hk
      have b2 := ho k hk
      have e : g k = h k := by simpa using hp
      try dsimp only
      rw [fX2_isAheadOf_L2_s, if_neg c, gin_nI (by omega) (by decide), gin_nI (by omega) (by decide), nI_clamp (by omega), b1.2, b2.2, if_pos (by rw [e]), nI_1'])
    (by
      intro k fuel hk hp
      have c : ¬ nI n ≤ nI k := nI_ge hk (by omega)
      have b1 := hf k hk
      have b2 := ho k hk
      have e : ¬ g k = h k := by simpa using hp
      try dsimp only
      rw [fX2_isAheadOf_L2_s, if_neg c, gin_nI (by omega) (by decide), gin_nI (by omega) (by decide), nI_clamp (by omega), b1.2, b2.2, if_neg (fun q => e ((nI_eq (by omega) (by omega)).mp q)), gin_nI (by omega) (by decide), gin_nI (by omega) (by decide)]
      by_cases q : h k ≤ g k
      · rw [if_pos (nI_le q (by omega)), if_pos q]
      · rw [if_neg (nI_ge (by omega) (by omega)), if_neg q])
    (by
      intro fuel
      try dsimp only
      rw [fX2_isAheadOf_L2_s, if_pos (nI_le (Nat.le_refl n) (by omega))])
  unfold fX2_isAheadOf z_lt
  cases hz : z_fd (fun k => decide (g k ≠ h k)) n 0 with
  | none =>
    rw [hz] at hh
    exact (bs_r (b := nI n) hh).trans rfl
  | some j =>
    rw [hz] at hh
    refine (bs_l (a := if h j ≤ g j then 0 else 1) hh).trans ?_
    have hj := (z_fd_some hz).2.2.1
    have e : ¬ g j = h j := by simpa using hj
    by_cases q : h j ≤ g j
    · rw [if_pos q, if_neg (by simp; omega)]
    · rw [if_neg q, if_pos (by simp; omega)]
theorem m_looks {n kind : Nat} (hn : 1 ≤ n) (hn8 : n ≤ 8) (hk : kind < 4) : fX2_looks (nI n) (nI kind) = some (nI (z_look n kind)) := by
  have e1 : nI n - (1 : Int32) = nI (n - 1) := nI_m1' hn
  have hb : n * (n - 1) < 2 ^ 31 := by
    have : n * (n - 1) ≤ 8 * 8 := Nat.mul_le_mul hn8 (by omega)
    omega
  unfold fX2_looks z_look
  rcases (show kind = 0 ∨ kind = 1 ∨ kind = 2 ∨ kind = 3 by omega) with rfl | rfl | rfl | rfl
  · rw [if_pos (by rfl), e1, pk_mul, z_div2 hb]; rfl
  · rfl
  · rfl
  · rw [if_neg (by decide), if_neg (by decide), if_neg (by decide), e1, pk_mul]; rfl
theorem m_risingPairs {n : Nat} {f : Nat → Int32} {g : Nat → Nat} (hn : n ≤ 8) (hf : Rg f g n) : fX2_risingPairs (nI n) f = some (nI (z_rp g n)) := by
  have inner : ∀ (A i : Nat), i < n → fX2_risingPairs_L16 FU (nI A) (nI i) (nI (i + 1)) (nI n) f = some (nI (A + z_sum (fun j => if i < j ∧ g i ≤ g j then 1 else 0) n), nI n) := by
    intro A i hi
    have h0 : z_sum (fun j => if i < j ∧ g i ≤ g j then 1 else 0) (i + 1) = 0 := z_sum_zero (fun j hj => if_neg (by omega))
    have h : fX2_risingPairs_L16 FU (nI (A + z_sum (fun j => if i < j ∧ g i ≤ g j then 1 else 0) (i + 1))) (nI i) (nI (i + 1)) (nI n) f = some (nI (A + z_sum (fun j => if i < j ∧ g i ≤ g j then 1 else 0) n), nI n) :=
      lp_FU2 (fun fuel k => fX2_risingPairs_L16 fuel (nI (A + z_sum (fun j => if i < j ∧ g i ≤ g j then 1 else 0) k)) (nI i) (nI k) (nI n) f) n _ (by omega) (i + 1) (by omega)
      (by
        intro k fuel h1 hk
        have c : ¬ nI n ≤ nI k := nI_ge hk (by omega)
        have b1 := hf k hk
        have b2 := hf i hi
        try dsimp only
        rw [fX2_risingPairs_L16_s, if_neg c, gin_nI (by omega) (by decide), gin_nI (by omega) (by decide), nI_clamp (by omega), nI_clamp (by omega), b1.2, b2.2, nI_1', nI_1', z_sum_s]
        by_cases e : g i ≤ g k
        · rw [if_neg (nI_nlt e (by omega)), if_pos ⟨by omega, e⟩]; rfl
        · rw [if_pos (nI_lt (by omega) (by omega)), if_neg (by omega)]; rfl)
      (by
        intro fuel
        try dsimp only
        rw [fX2_risingPairs_L16_s, if_pos (nI_le (Nat.le_refl n) (by omega))])
    rw [h0] at h
    exact h
  have h : fX2_risingPairs_L4 FU (nI (z_sum (fun i => z_sum (fun j => if i < j ∧ g i ≤ g j then 1 else 0) n) 0)) (nI 0) (nI n) f = some (nI (z_rp g n), nI n) :=
    lp_FU (fun fuel k => fX2_risingPairs_L4 fuel (nI (z_sum (fun i => z_sum (fun j => if i < j ∧ g i ≤ g j then 1 else 0) n) k)) (nI k) (nI n) f) n _ (by omega) 0 (Nat.zero_le _)
    (by
      intro k fuel hk
      have c : ¬ nI n ≤ nI k := nI_ge hk (by omega)
      try dsimp only
      rw [fX2_risingPairs_L4_s, if_neg c, nI_1', bd_of (inner _ k hk), z_sum_s])
    (by
      intro fuel
      try dsimp only
      rw [fX2_risingPairs_L4_s, if_pos (nI_le (Nat.le_refl n) (by omega))]
      rfl)
  unfold fX2_risingPairs
  exact (bd_of h).trans rfl
theorem m_mirroredPlaces {n : Nat} {f : Nat → Int32} {g : Nat → Nat} (hn : n ≤ 8) (hf : Rg f g n) : fX2_mirroredPlaces (nI n) f = some (nI (z_mp g n)) := by
  have h : fX2_mirroredPlaces_L4 FU (nI (z_sum (fun i => if g i = g (n - 1 - i) then 1 else 0) 0)) (nI 0) (nI n) f = some (nI (z_mp g n), nI n) :=
    lp_FU (fun fuel k => fX2_mirroredPlaces_L4 fuel (nI (z_sum (fun i => if g i = g (n - 1 - i) then 1 else 0) k)) (nI k) (nI n) f) n _ (by omega) 0 (Nat.zero_le _)
    (by
      intro k fuel hk
      have c : ¬ nI n ≤ nI k := nI_ge hk (by omega)
      have b1 := hf k hk
      have b2 := hf (n - 1 - k) (by omega)
      try dsimp only
      rw [fX2_mirroredPlaces_L4_s, if_neg c, nI_m1' (by omega), nI_sub' (by omega), gin_nI (by omega) (by decide), gin_nI (by omega) (by decide), nI_clamp (by omega), nI_clamp (by omega), b1.2, b2.2, nI_1', nI_1', z_sum_s]
      by_cases e : g k = g (n - 1 - k)
      · rw [if_pos (by rw [← e]), if_pos e]
      · rw [if_neg (fun q => e ((nI_eq (by omega) (by omega)).mp q)), if_neg e]; rfl)
    (by
      intro fuel
      try dsimp only
      rw [fX2_mirroredPlaces_L4_s, if_pos (nI_le (Nat.le_refl n) (by omega))]
      rfl)
  unfold fX2_mirroredPlaces
  exact (bd_of h).trans rfl
theorem m_alikeShifts {n : Nat} {f : Nat → Int32} {g : Nat → Nat} (hn : n ≤ 8) (hf : Rg f g n) : fX2_alikeShifts (nI n) f = some (nI (z_ap g n)) := by
  have inner : ∀ (A i : Nat), i < n → fX2_alikeShifts_L14 FU (nI A) (nI i) (nI 0) (nI n) f = some (nI (A + z_sum (fun j => if i ≠ j ∧ g i = g j then 1 else 0) n), nI n) := by
    intro A i hi
    exact lp_FU (fun fuel k => fX2_alikeShifts_L14 fuel (nI (A + z_sum (fun j => if i ≠ j ∧ g i = g j then 1 else 0) k)) (nI i) (nI k) (nI n) f) n _ (by omega) 0 (by omega)
      (by
        intro k fuel hk
        have c : ¬ nI n ≤ nI k := nI_ge hk (by omega)
        have b1 := hf k hk
        have b2 := hf i hi
        try dsimp only
        rw [fX2_alikeShifts_L14_s, if_neg c, nI_1', nI_1', z_sum_s]
        by_cases e0 : i = k
        · rw [if_pos (by rw [e0]), if_neg (fun q => q.1 e0)]; rfl
        · rw [if_neg (fun q => e0 ((nI_eq (by omega) (by omega)).mp q)), gin_nI (by omega) (by decide), gin_nI (by omega) (by decide), nI_clamp (by omega), nI_clamp (by omega), b1.2, b2.2]
          by_cases e : g i = g k
          · rw [if_pos (by rw [e]), if_pos ⟨e0, e⟩]; rfl
          · rw [if_neg (fun q => e ((nI_eq (by omega) (by omega)).mp q)), if_neg (fun q => e q.2)]; rfl)
      (by
        intro fuel
        try dsimp only
        rw [fX2_alikeShifts_L14_s, if_pos (nI_le (Nat.le_refl n) (by omega))])
  have h : fX2_alikeShifts_L4 FU (nI (z_sum (fun i => z_sum (fun j => if i ≠ j ∧ g i = g j then 1 else 0) n) 0)) (nI 0) (nI n) f = some (nI (z_ap g n), nI n) :=
    lp_FU (fun fuel k => fX2_alikeShifts_L4 fuel (nI (z_sum (fun i => z_sum (fun j => if i ≠ j ∧ g i = g j then 1 else 0) n) k)) (nI k) (nI n) f) n _ (by omega) 0 (Nat.zero_le _)
    (by
      intro k fuel hk
      have c : ¬ nI n ≤ nI k := nI_ge hk (by omega)
      try dsimp only
      rw [fX2_alikeShifts_L4_s, if_neg c, nI_1', show (0 : Int32) = nI 0 from rfl, bd_of (inner _ k hk), z_sum_s])
    (by
      intro fuel
      try dsimp only
      rw [fX2_alikeShifts_L4_s, if_pos (nI_le (Nat.le_refl n) (by omega))]
      rfl)
  unfold fX2_alikeShifts
  exact (bd_of h).trans rfl
theorem z_sum4_lt {g : Nat → Nat} {n : Nat} (hn : n ≤ 8) (h : ∀ i, i < n → g i < 4) : z_sum g n < 32 := by
  have h1 := z_sum_le (g := g) (n := n) (m := 3) (fun i hi => by have := h i hi; omega)
  omega
theorem m_passing {n kind : Nat} {f : Nat → Int32} {g : Nat → Nat} (hn : n ≤ 8) (hk : kind < 4) (hf : Rg f g n) : fX2_passing (nI n) f (nI kind) = some (nI (z_pass g n kind)) := by
  have hb : z_sum g n < 2 ^ 31 := by have := z_sum4_lt hn (fun i hi => (hf i hi).1); omega
  unfold fX2_passing z_pass
  rcases (show kind = 0 ∨ kind = 1 ∨ kind = 2 ∨ kind = 3 by omega) with rfl | rfl | rfl | rfl
  · rw [if_pos (by rfl), bd_of (m_risingPairs hn hf)]; rfl
  · rw [if_neg (by decide), if_pos (by rfl), bd_of (m_mirroredPlaces hn hf)]; rfl
  · rw [if_neg (by decide), if_neg (by decide), if_pos (by rfl), bd_of (m_total hn hf), nI_rem2 hb]
    show (if nI (z_sum g n % 2) = 0 then some (1 : Int32) else some 0) = some (nI (if z_sum g n % 2 = 0 then 1 else 0))
    by_cases e : z_sum g n % 2 = 0
    · rw [if_pos e, e]; rfl
    · rw [if_neg e, if_neg (show ¬ nI (z_sum g n % 2) = (0 : Int32) from fun q => e ((nI_eq (b := 0) (by omega) (by decide)).mp q))]; rfl
  · rw [if_neg (by decide), if_neg (by decide), if_neg (by decide), bd_of (m_alikeShifts hn hf)]; rfl
