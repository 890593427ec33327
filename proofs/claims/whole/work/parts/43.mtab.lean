/-! the table -/
theorem z_sl : ∀ n, n < 32 → ((nI n &&& 31).toBitVec.smod 32).toNat = n := by decide +kernel
theorem z_bit {B x : Nat} (hB : B < 2 ^ 31) (hx : x < 32) : (nI B >>> (nI x &&& 31)) &&& (1 : Int32) = nI (B / 2 ^ x % 2) := by
  rw [pk_shrN hB _ x (z_sl x hx)]
  exact pk_andN (k := 1) (by have := Nat.div_le_self B (2 ^ x); omega) (by decide)
def z_pc (k : Nat) : Nat := z_sum (fun b => k / 2 ^ b % 2) 8
def z_par (c : Nat) : Nat := [0, 170, 204, 102, 240, 90, 60, 150].getD c 0
def z_put (B x v : Nat) : Nat := B - (B / 2 ^ x % 2) * 2 ^ x + v * 2 ^ x
theorem m_bitCount : ∀ k, k < 256 → fJ6_bitCount_0f7a4 (nI k) = some (nI (z_pc k)) := by decide +kernel
theorem m_at {B x : Nat} (hB : B < 256) (hx : x < 8) : fX3_at (nI B) (nI x) = some (nI (B / 2 ^ x % 2)) := by
  unfold fX3_at
  rw [z_bit (by omega) (by omega)]
theorem z_put_e : ∀ B, B < 256 → ∀ x, x < 8 → ∀ v, v < 2 → ((nI B &&& (((1 : Int32) <<< (nI x &&& 31)) ^^^ (-1 : Int32))) ||| (nI v <<< (nI x &&& 31))) = nI (z_put B x v) := by decide +kernel
theorem z_put_bit : ∀ B, B < 256 → ∀ x, x < 8 → ∀ v, v < 2 → z_put B x v < 256 ∧ ∀ y, y < 8 → z_put B x v / 2 ^ y % 2 = if y = x then v else B / 2 ^ y % 2 := by decide +kernel
theorem m_put {B x v : Nat} (hB : B < 256) (hx : x < 8) (hv : v < 2) : fX3_put (nI B) (nI x) (nI v) = some (nI (z_put B x v)) := by
  unfold fX3_put
  rw [z_put_e B hB x hx v hv]
theorem z_xor8 : ∀ a, a < 8 → ∀ b, b < 8 → nI a ^^^ nI b = nI (a ^^^ b) ∧ a ^^^ b < 8 := by decide +kernel
theorem z_xor2 : ∀ a, a < 2 → ∀ b, b < 2 → nI a ^^^ nI b = nI ((a + b) % 2) := by decide +kernel
theorem z_par_lt : ∀ c, c < 8 → z_par c < 256 := by decide
theorem m_parities_L {c : Nat} (hc : c < 8) : fX3_parities (nI c) = some (nI (z_par c)) := by
  have h : fX3_parities_L4 FU (nI c) (nI 0) (nI 0) = some (nI (z_par c), nI 8) := by
    have hs : ∀ k, k < 8 → ∀ c, c < 8 → (fJ6_bitCount_0f7a4 (nI c &&& nI k)) = some (nI (z_pc (c &&& k))) ∧ (nI (z_par c % 2 ^ k) ||| ((nI (z_pc (c &&& k)) &&& (1 : Int32)) <<< (nI k &&& 31))) = nI (z_par c % 2 ^ (k + 1)) := by decide +kernel
    have h2 : fX3_parities_L4 FU (nI c) (nI (z_par c % 2 ^ 0)) (nI 0) = some (nI (z_par c % 2 ^ 8), nI 8) := lp_FU (fun fuel k => fX3_parities_L4 fuel (nI c) (nI (z_par c % 2 ^ k)) (nI k)) 8 _ (by decide) 0 (by decide)
      (by
        intro k fuel hk
        have c1 : ¬ (8 : Int32) ≤ nI k := nI_ge hk (by decide)
        try dsimp only
        rw [fX3_parities_L4_s, if_neg c1, bd_of (hs k hk c hc).1, (hs k hk c hc).2, nI_1'])
      (by
        intro fuel
        try dsimp only
        rw [fX3_parities_L4_s, if_pos (by decide)])
    have e0 : z_par c % 2 ^ 0 = 0 := by omega
    have e8 : z_par c % 2 ^ 8 = z_par c := Nat.mod_eq_of_lt (z_par_lt c hc)
    rw [e0, e8] at h2
    exact h2
  unfold fX3_parities
  exact (bd_of h).trans rfl
/-- how far the table B is from that of c -/
def z_tf (B c : Nat) : Nat := z_sum (fun x => if B / 2 ^ x % 2 = z_par c / 2 ^ x % 2 then 0 else 1) 8
theorem z_tf_e : ∀ B, B < 256 → ∀ c, c < 8 → nI B ^^^ nI (z_par c) = nI (B ^^^ z_par c) ∧ B ^^^ z_par c < 256 ∧ z_pc (B ^^^ z_par c) = z_tf B c := by decide +kernel
theorem m_tdiffering {B c : Nat} (hB : B < 256) (hc : c < 8) : fX3_differing (nI B) (nI c) = some (nI (z_tf B c)) := by
  obtain ⟨h1, h2, h3⟩ := z_tf_e B hB c hc
  unfold fX3_differing
  rw [bd_of (m_parities_L hc), h1, bd_of (m_bitCount _ h2), h3]
/-- the least of those with the least value, among the first c -/
def z_am (far : Nat → Nat) : Nat → Nat
  | 0 => 0
  | c + 1 => if far c < far (z_am far c) then c else z_am far c
theorem z_am_le (far : Nat → Nat) (c : Nat) : z_am far (c + 1) ≤ c := by
  induction c with
  | zero => unfold z_am; split <;> first | exact Nat.le_refl _ | exact Nat.zero_le _
  | succ c ih =>
    show (if far (c + 1) < far (z_am far (c + 1)) then c + 1 else z_am far (c + 1)) ≤ c + 1
    split <;> omega
theorem z_tf_le (B c : Nat) : z_tf B c ≤ 8 := by
  have := z_sum_le (g := fun x => if B / 2 ^ x % 2 = z_par c / 2 ^ x % 2 then 0 else 1) (n := 8) (m := 1) (fun i _ => by split <;> omega)
  unfold z_tf
  omega
theorem m_closest {B : Nat} (hB : B < 256) : fX3_closest (nI B) = some (nI (z_am (z_tf B) 8)) := by
  have h : fX3_closest_L4 FU (nI (z_am (z_tf B) 1)) (nI 1) (nI B) = some (nI (z_am (z_tf B) 8), nI 8) := lp_FU2 (fun fuel k => fX3_closest_L4 fuel (nI (z_am (z_tf B) k)) (nI k) (nI B)) 8 _ (by decide) 1 (by decide)
    (by
      intro k fuel h1 hk
      have c : ¬ (8 : Int32) ≤ nI k := nI_ge hk (by decide)
      have ha : z_am (z_tf B) k < 8 := by
        obtain ⟨j, rfl⟩ : ∃ j, k = j + 1 := ⟨k - 1, by omega⟩
        have := z_am_le (z_tf B) j
        omega
      have q1 := z_tf_le B k
      have q2 := z_tf_le B (z_am (z_tf B) k)
      try dsimp only
      rw [fX3_closest_L4_s, if_neg c, bd_of (m_tdiffering hB hk), bd_of (m_tdiffering hB ha), nI_1']
      have es : z_am (z_tf B) (k + 1) = if z_tf B k < z_tf B (z_am (z_tf B) k) then k else z_am (z_tf B) k := rfl
      rw [es]
      by_cases e : z_tf B k < z_tf B (z_am (z_tf B) k)
      · rw [if_neg (nI_ge e (by omega)), if_pos e]
      · rw [if_pos (nI_le (by omega) (by omega)), if_neg e])
    (by
      intro fuel
      try dsimp only
      rw [fX3_closest_L4_s, if_pos (by decide)])
  have e1 : z_am (z_tf B) 1 = 0 := Nat.le_zero.mp (z_am_le (z_tf B) 0)
  rw [e1] at h
  unfold fX3_closest
  exact (bd_of h).trans rfl
def z_ag (B x y : Nat) : Prop := (B / 2 ^ x % 2 + B / 2 ^ y % 2 + B / 2 ^ (x ^^^ y) % 2) % 2 = 0
theorem m_agrees {B x y : Nat} (hB : B < 256) (hx : x < 8) (hy : y < 8) : (z_ag B x y → fX3_agrees (nI B) (nI x) (nI y) = some 1) ∧ (¬ z_ag B x y → fX3_agrees (nI B) (nI x) (nI y) = some 0) := by
  obtain ⟨h1, h2⟩ := z_xor8 x hx y hy
  have a1 : B / 2 ^ x % 2 < 2 := Nat.mod_lt _ (by decide)
  have a2 : B / 2 ^ y % 2 < 2 := Nat.mod_lt _ (by decide)
  have a3 : B / 2 ^ (x ^^^ y) % 2 < 2 := Nat.mod_lt _ (by decide)
  have e : fX3_agrees (nI B) (nI x) (nI y) = if nI ((B / 2 ^ x % 2 + B / 2 ^ y % 2) % 2) = nI (B / 2 ^ (x ^^^ y) % 2) then some 1 else some 0 := by
    unfold fX3_agrees
    rw [bd_of (m_at hB hx), bd_of (m_at hB hy), h1, bd_of (m_at hB h2), z_xor2 _ a1 _ a2]
  unfold z_ag
  generalize B / 2 ^ x % 2 = a at *
  generalize B / 2 ^ y % 2 = b at *
  generalize B / 2 ^ (x ^^^ y) % 2 = d at *
  refine ⟨fun h => ?_, fun h => ?_⟩
  · rw [e, if_pos (by rw [show (a + b) % 2 = d by omega])]
  · rw [e, if_neg (fun q => h (by have := (nI_eq (by omega) (by omega)).mp q; omega))]
theorem z_ag_dec (B x y : Nat) : z_ag B x y ∨ ¬ z_ag B x y := Classical.em _
noncomputable def z_agn (B x y : Nat) : Nat := if (B / 2 ^ x % 2 + B / 2 ^ y % 2 + B / 2 ^ (x ^^^ y) % 2) % 2 = 0 then 1 else 0
noncomputable def z_tp (B : Nat) : Nat := z_sum (fun x => z_sum (fun y => z_agn B x y) 8) 8
theorem m_tpassing {B : Nat} (hB : B < 256) : fX3_passing (nI B) = some (nI (z_tp B)) := by
  have inner : ∀ (A x : Nat), x < 8 → fX3_passing_L12 FU (nI A) (nI x) (nI 0) (nI B) = some (nI (A + z_sum (fun y => z_agn B x y) 8), nI 8) := by
    intro A x hx
    exact lp_FU (fun fuel k => fX3_passing_L12 fuel (nI (A + z_sum (fun y => z_agn B x y) k)) (nI x) (nI k) (nI B)) 8 _ (by omega) 0 (by omega)
      (by
        intro k fuel hk
        have c : ¬ (8 : Int32) ≤ nI k := nI_ge hk (by decide)
        try dsimp only
        rw [fX3_passing_L12_s, if_neg c, nI_1', nI_1', z_sum_s]
        by_cases e : z_ag B x k
        · rw [bd_of ((m_agrees hB hx hk).1 e), if_neg (by decide), show z_agn B x k = 1 from if_pos e]; rfl
        · rw [bd_of ((m_agrees hB hx hk).2 e), if_pos (by rfl), show z_agn B x k = 0 from if_neg e]; rfl)
      (by
        intro fuel
        try dsimp only
        rw [fX3_passing_L12_s, if_pos (by decide)])
  have h : fX3_passing_L4 FU (nI (z_sum (fun x => z_sum (fun y => z_agn B x y) 8) 0)) (nI 0) (nI B) = some (nI (z_tp B), nI 8) :=
    lp_FU (fun fuel k => fX3_passing_L4 fuel (nI (z_sum (fun x => z_sum (fun y => z_agn B x y) 8) k)) (nI k) (nI B)) 8 _ (by omega) 0 (Nat.zero_le _)
    (by
      intro k fuel hk
      have c : ¬ (8 : Int32) ≤ nI k := nI_ge hk (by decide)
      try dsimp only
      rw [fX3_passing_L4_s, if_neg c, nI_1', show (0 : Int32) = nI 0 from rfl, bd_of (inner _ k hk)]
      rfl)
    (by
      intro fuel
      try dsimp only
      rw [fX3_passing_L4_s, if_pos (by decide)]
      rfl)
  unfold fX3_passing
  exact (bd_of h).trans rfl
def z_tl (B x v : Nat) : Nat := z_sum (fun y => if (B / 2 ^ y % 2 + B / 2 ^ (x ^^^ y) % 2) % 2 = v then 1 else 0) 8
theorem m_tellers {B x v : Nat} (hB : B < 256) (hx : x < 8) (hv : v < 2) : fX3_tellers (nI B) (nI x) (nI v) = some (nI (z_tl B x v)) := by
  have h : fX3_tellers_L5 FU (nI x) (nI v) (nI (z_sum (fun y => if (B / 2 ^ y % 2 + B / 2 ^ (x ^^^ y) % 2) % 2 = v then 1 else 0) 0)) (nI 0) (nI B) = some (nI (z_tl B x v), nI 8) :=
    lp_FU (fun fuel k => fX3_tellers_L5 fuel (nI x) (nI v) (nI (z_sum (fun y => if (B / 2 ^ y % 2 + B / 2 ^ (x ^^^ y) % 2) % 2 = v then 1 else 0) k)) (nI k) (nI B)) 8 _ (by omega) 0 (Nat.zero_le _)
    (by
      intro k fuel hk
      have c : ¬ (8 : Int32) ≤ nI k := nI_ge hk (by decide)
      obtain ⟨h1, h2⟩ := z_xor8 x hx k hk
      have a1 : B / 2 ^ k % 2 < 2 := Nat.mod_lt _ (by decide)
      have a3 : B / 2 ^ (x ^^^ k) % 2 < 2 := Nat.mod_lt _ (by decide)
      try dsimp only
      rw [fX3_tellers_L5_s, if_neg c, bd_of (m_at hB hk), h1, bd_of (m_at hB h2), z_xor2 _ a1 _ a3, nI_1', nI_1', z_sum_s]
      by_cases e : (B / 2 ^ k % 2 + B / 2 ^ (x ^^^ k) % 2) % 2 = v
      · rw [if_pos (by rw [e]), if_pos e]
      · rw [if_neg (fun q => e ((nI_eq (by omega) (by omega)).mp q)), if_neg e]; rfl)
    (by
      intro fuel
      try dsimp only
      rw [fX3_tellers_L5_s, if_pos (by decide)]
      rfl)
  unfold fX3_tellers
  exact (bd_of h).trans rfl
-- the reference's table
def Tb (f : Nat → Int32) (B : Nat) : Prop := ∀ x, x < 8 → f x = nI (B / 2 ^ x % 2)
theorem m_parity : ∀ c, c < 8 → ∀ x, x < 8 → fX5_parity (nI c) (nI x) = some (nI (z_par c / 2 ^ x % 2)) := by
  have ho : ∀ k, k < 8 → fX5_ones (nI k) = some (nI (z_pc k)) := by
    intro k hk
    have h : fX5_ones_L4 FU (nI k) (nI (z_sum (fun b => k / 2 ^ b % 2) 0)) (nI 0) = some (nI (z_pc k), nI 8) := lp_FU (fun fuel j => fX5_ones_L4 fuel (nI k) (nI (z_sum (fun b => k / 2 ^ b % 2) j)) (nI j)) 8 _ (by decide) 0 (by decide)
      (by
        intro j fuel hj
        have c : ¬ (8 : Int32) ≤ nI j := nI_ge hj (by decide)
        try dsimp only
        rw [fX5_ones_L4_s, if_neg c, z_bit (by omega) (by omega), nI_add, nI_1', z_sum_s])
      (by
        intro fuel
        try dsimp only
        rw [fX5_ones_L4_s, if_pos (by decide)]
        rfl)
    unfold fX5_ones
    exact (bd_of h).trans rfl
  have hq : ∀ c, c < 8 → ∀ x, x < 8 → nI c &&& nI x = nI (c &&& x) ∧ c &&& x < 8 ∧ nI (z_pc (c &&& x)) - nI (z_pc (c &&& x)) / (2 : Int32) * (2 : Int32) = nI (z_par c / 2 ^ x % 2) := by decide +kernel
  intro c hc x hx
  obtain ⟨h1, h2, h3⟩ := hq c hc x hx
  unfold fX5_parity
  rw [h1, bd_of (ho _ h2), h3]
theorem m_linear {f : Nat → Int32} {c : Nat} (hc : c < 8) : ∃ f', fX5_linear f (nI c) = some (1, f') ∧ Tb f' (z_par c) := by
  have h : fX5_linear_L12 FU (nI c) (nI 0) (z_fl (fun x => nI (z_par c / 2 ^ x % 2)) f 0) = some (nI 8, z_fl (fun x => nI (z_par c / 2 ^ x % 2)) f 8) := lp_FU (fun fuel k => fX5_linear_L12 fuel (nI c) (nI k) (z_fl (fun x => nI (z_par c / 2 ^ x % 2)) f k)) 8 _ (by decide) 0 (by decide)
    (by
      intro k fuel hk
      have c1 : ¬ (8 : Int32) ≤ nI k := nI_ge hk (by decide)
      try dsimp only
      rw [fX5_linear_L12_s, if_neg c1, bd_of (m_parity c hc k hk), gin_nI hk (by decide), nI_clamp (by omega), nI_1']
      exact congrArg (fun z => fX5_linear_L12 fuel (nI c) (nI (k + 1)) z) (z_fl_s' _ _ _ _ rfl))
    (by
      intro fuel
      try dsimp only
      rw [fX5_linear_L12_s, if_pos (by decide)])
  rw [z_fl_0] at h
  have hi : fX5_isEight (nI c) = some 1 := by
    unfold fX5_isEight fX5_in
    rw [if_neg (nI_pos (by omega)), if_neg (show ¬ (7 : Int32) < nI c from nI_nlt (a := 7) (b := c) (by omega) (by decide))]
    rfl
  refine ⟨z_fl (fun x => nI (z_par c / 2 ^ x % 2)) f 8, ?_, fun x hx => z_fl_in hx⟩
  unfold fX5_linear
  rw [bd_of hi, if_neg (by decide)]
  exact (bd_of h).trans rfl
theorem m_tableFar {f : Nat → Int32} {B c : Nat} (hT : Tb f B) (hc : c < 8) : fX5_tableFar f (nI c) = some (nI (z_tf B c)) := by
  have h : fX5_tableFar_L4 FU (nI c) (nI (z_sum (fun x => if B / 2 ^ x % 2 = z_par c / 2 ^ x % 2 then 0 else 1) 0)) (nI 0) f = some (nI (z_tf B c), nI 8) :=
    lp_FU (fun fuel k => fX5_tableFar_L4 fuel (nI c) (nI (z_sum (fun x => if B / 2 ^ x % 2 = z_par c / 2 ^ x % 2 then 0 else 1) k)) (nI k) f) 8 _ (by decide) 0 (by decide)
    (by
      intro k fuel hk
      have c1 : ¬ (8 : Int32) ≤ nI k := nI_ge hk (by decide)
      have a1 : B / 2 ^ k % 2 < 2 := Nat.mod_lt _ (by decide)
      have a2 : z_par c / 2 ^ k % 2 < 2 := Nat.mod_lt _ (by decide)
      try dsimp only
      rw [fX5_tableFar_L4_s, if_neg c1, gin_nI hk (by decide), bd_of (m_parity c hc k hk), nI_clamp (by omega), hT k hk, nI_1', nI_1', nI_add0, z_sum_s]
      by_cases e : B / 2 ^ k % 2 = z_par c / 2 ^ k % 2
      · rw [if_pos (by rw [e]), if_pos e]; rfl
      · rw [if_neg (fun q => e ((nI_eq (by omega) (by omega)).mp q)), if_neg e])
    (by
      intro fuel
      try dsimp only
      rw [fX5_tableFar_L4_s, if_pos (by decide)]
      rfl)
  unfold fX5_tableFar
  exact (bd_of h).trans rfl
theorem m_nearestTable {f : Nat → Int32} {B : Nat} (hT : Tb f B) : fX5_nearestTable f = some (nI (z_am (z_tf B) 8)) := by
  have h : fX5_nearestTable_L4 FU (nI (z_am (z_tf B) 1)) (nI 1) f = some (nI (z_am (z_tf B) 8), nI 8) := lp_FU2 (fun fuel k => fX5_nearestTable_L4 fuel (nI (z_am (z_tf B) k)) (nI k) f) 8 _ (by decide) 1 (by decide)
    (by
      intro k fuel h1 hk
      have c : ¬ (8 : Int32) ≤ nI k := nI_ge hk (by decide)
      have ha : z_am (z_tf B) k < 8 := by
        obtain ⟨j, rfl⟩ : ∃ j, k = j + 1 := ⟨k - 1, by omega⟩
        have := z_am_le (z_tf B) j
        omega
      have q1 := z_tf_le B k
      have q2 := z_tf_le B (z_am (z_tf B) k)
      try dsimp only
      rw [fX5_nearestTable_L4_s, if_neg c, bd_of (m_tableFar hT hk), bd_of (m_tableFar hT ha), nI_1']
      have es : z_am (z_tf B) (k + 1) = if z_tf B k < z_tf B (z_am (z_tf B) k) then k else z_am (z_tf B) k := rfl
      rw [es]
      by_cases e : z_tf B k < z_tf B (z_am (z_tf B) k)
      · rw [if_neg (nI_ge e (by omega)), if_pos e]
      · rw [if_pos (nI_le (by omega) (by omega)), if_neg e])
    (by
      intro fuel
      try dsimp only
      rw [fX5_nearestTable_L4_s, if_pos (by decide)])
  have e1 : z_am (z_tf B) 1 = 0 := Nat.le_zero.mp (z_am_le (z_tf B) 0)
  rw [e1] at h
  unfold fX5_nearestTable
  exact (bd_of h).trans rfl
theorem m_passesTable {a b d : Nat} (ha : a < 2) (hb : b < 2) (hd : d < 2) : fX5_passesTable (nI a) (nI b) (nI d) = some (if (a + b + d) % 2 = 0 then 1 else 0) := by
  unfold fX5_passesTable
  rw [nI_add, nI_add, nI_rem2 (by omega)]
  by_cases e : (a + b + d) % 2 = 0
  · rw [if_pos e, e]; rfl
  · rw [if_neg e, if_neg (show ¬ nI ((a + b + d) % 2) = (0 : Int32) from fun q => e ((nI_eq (b := 0) (by omega) (by decide)).mp q))]
theorem m_countTable {f : Nat → Int32} {B : Nat} (hT : Tb f B) (A0 B0 : Int64) : fX5_countTable A0 B0 f = some (lN (z_tp B), lN 64) := by
  have inner : ∀ (A x : Nat), x < 8 → fX5_countTable_L22 FU (nI x) (nI 0) (lN A) f = some (nI 8, lN (A + z_sum (fun y => z_agn B x y) 8)) := by
    intro A x hx
    exact lp_FU (fun fuel k => fX5_countTable_L22 fuel (nI x) (nI k) (lN (A + z_sum (fun y => z_agn B x y) k)) f) 8 _ (by omega) 0 (by omega)
      (by
        intro k fuel hk
        have c : ¬ (8 : Int32) ≤ nI k := nI_ge hk (by decide)
        obtain ⟨h1, h2⟩ := z_xor8 x hx k hk
        have a1 : B / 2 ^ x % 2 < 2 := Nat.mod_lt _ (by decide)
        have a2 : B / 2 ^ k % 2 < 2 := Nat.mod_lt _ (by decide)
        have a3 : B / 2 ^ (x ^^^ k) % 2 < 2 := Nat.mod_lt _ (by decide)
        try dsimp only
        rw [fX5_countTable_L22_s, if_neg c, h1, gin_nI (by omega) (by decide), gin_nI (by omega) (by decide), gin_nI (by omega) (by decide), nI_clamp (by omega), nI_clamp (by omega), nI_clamp (by omega), hT x hx, hT k hk, hT _ h2, bd_of (m_passesTable a1 a2 a3), nI_1', lN_1', lN_0', z_sum_s]
        by_cases e : (B / 2 ^ x % 2 + B / 2 ^ k % 2 + B / 2 ^ (x ^^^ k) % 2) % 2 = 0
        · rw [if_neg (by rw [if_pos e]; decide), show z_agn B x k = 1 from if_pos e]; rfl
        · rw [if_pos (by rw [if_neg e]), show z_agn B x k = 0 from if_neg e]; rfl)
      (by
        intro fuel
        try dsimp only
        rw [fX5_countTable_L22_s, if_pos (by decide)])
  have h : fX5_countTable_L14 FU (nI 0) (lN (z_sum (fun x => z_sum (fun y => z_agn B x y) 8) 0)) f = some (nI 8, lN (z_tp B)) :=
    lp_FU (fun fuel k => fX5_countTable_L14 fuel (nI k) (lN (z_sum (fun x => z_sum (fun y => z_agn B x y) 8) k)) f) 8 _ (by omega) 0 (Nat.zero_le _)
    (by
      intro k fuel hk
      have c : ¬ (8 : Int32) ≤ nI k := nI_ge hk (by decide)
      try dsimp only
      rw [fX5_countTable_L14_s, if_neg c, nI_1', show (0 : Int32) = nI 0 from rfl, bd_of (inner _ k hk)]
      rfl)
    (by
      intro fuel
      try dsimp only
      rw [fX5_countTable_L14_s, if_pos (by decide)]
      rfl)
  unfold fX5_countTable
  exact (bd_of h).trans rfl
theorem m_mended {f : Nat → Int32} {B x v : Nat} (hT : Tb f B) (hx : x < 8) (hv : v < 2) : fX5_mended_L22 FU (nI x) (nI v) (0 : Int32) (0 : Int32) f = some (nI (z_tl B x v), nI 8) :=
  lp_FU (fun fuel k => fX5_mended_L22 fuel (nI x) (nI v) (nI (z_sum (fun y => if (B / 2 ^ y % 2 + B / 2 ^ (x ^^^ y) % 2) % 2 = v then 1 else 0) k)) (nI k) f) 8 _ (by omega) 0 (Nat.zero_le _)
    (by
      intro k fuel hk
      have c : ¬ (8 : Int32) ≤ nI k := nI_ge hk (by decide)
      obtain ⟨h1, h2⟩ := z_xor8 x hx k hk
      have a1 : B / 2 ^ k % 2 < 2 := Nat.mod_lt _ (by decide)
      have a3 : B / 2 ^ (x ^^^ k) % 2 < 2 := Nat.mod_lt _ (by decide)
      try dsimp only
      rw [fX5_mended_L22_s, if_neg c, h1, gin_nI (by omega) (by decide), gin_nI (by omega) (by decide), nI_clamp (by omega), nI_clamp (by omega), hT k hk, hT _ h2, nI_add, nI_rem2 (by omega), nI_1', nI_1', nI_add0, z_sum_s]
      by_cases e : (B / 2 ^ k % 2 + B / 2 ^ (x ^^^ k) % 2) % 2 = v
      · rw [if_pos (by rw [e]), if_pos e]
      · rw [if_neg (fun q => e ((nI_eq (by omega) (by omega)).mp q)), if_neg e]; rfl)
    (by
      intro fuel
      try dsimp only
      rw [fX5_mended_L22_s, if_pos (by decide)]
      rfl)
theorem m_count3 {f : Nat → Int32} {B : Nat} (hT : Tb f B) : fX5_count_L78 FU (0 : Int32) (0 : Int32) f = some (nI (z_pc B), nI 8) :=
  lp_FU (fun fuel k => fX5_count_L78 fuel (nI (z_sum (fun b => B / 2 ^ b % 2) k)) (nI k) f) 8 _ (by omega) 0 (Nat.zero_le _)
    (by
      intro k fuel hk
      have c : ¬ (8 : Int32) ≤ nI k := nI_ge hk (by decide)
      try dsimp only
      rw [fX5_count_L78_s, if_neg c, gin_nI (by omega) (by decide), nI_clamp (by omega), hT k hk, nI_add, nI_1', z_sum_s])
    (by
      intro fuel
      try dsimp only
      rw [fX5_count_L78_s, if_pos (by decide)]
      rfl)
