/-! the net -/
theorem z_andb (x y b : Nat) : (x &&& y) / 2 ^ b % 2 = (x / 2 ^ b % 2) * (y / 2 ^ b % 2) := by
  have h := Nat.testBit_and x y b
  rw [Nat.testBit_eq_decide_div_mod_eq, Nat.testBit_eq_decide_div_mod_eq, Nat.testBit_eq_decide_div_mod_eq] at h
  have a1 : (x &&& y) / 2 ^ b % 2 < 2 := Nat.mod_lt _ (by decide)
  have a2 : x / 2 ^ b % 2 < 2 := Nat.mod_lt _ (by decide)
  have a3 : y / 2 ^ b % 2 < 2 := Nat.mod_lt _ (by decide)
  generalize (x &&& y) / 2 ^ b % 2 = p at *
  generalize x / 2 ^ b % 2 = q at *
  generalize y / 2 ^ b % 2 = r at *
  rcases (show p = 0 ∨ p = 1 by omega) with rfl | rfl <;> rcases (show q = 0 ∨ q = 1 by omega) with rfl | rfl <;> rcases (show r = 0 ∨ r = 1 by omega) with rfl | rfl <;> simp at h ⊢
theorem z_and64 : ∀ a, a < 64 → ∀ b, b < 64 → nI a &&& nI b = nI (a &&& b) ∧ a &&& b < 64 := by decide +kernel
theorem z_not64 : ∀ m, m < 64 → ∀ c, c < 64 → nI m &&& (nI c ^^^ (-1 : Int32)) = nI (m &&& (63 ^^^ c)) ∧ m &&& (63 ^^^ c) < 64 := by decide +kernel
theorem z_not2 : ∀ m, m < 64 → ∀ c, c < 64 → nI m &&& ((nI c ^^^ (-1 : Int32)) ^^^ (-1 : Int32)) = nI (m &&& c) ∧ nI m &&& (((63 : Int32) &&& (nI c ^^^ (-1 : Int32))) ^^^ (-1 : Int32)) = nI (m &&& c) := by decide +kernel
theorem z_x63 : ∀ c, c < 64 → 63 ^^^ c < 64 ∧ ∀ b, b < 6 → (63 ^^^ c) / 2 ^ b % 2 = 1 - c / 2 ^ b % 2 := by decide +kernel
theorem z_pc6 : ∀ k, k < 64 → z_pc k = z_sum (fun b => k / 2 ^ b % 2) 6 := by decide +kernel
theorem z_2bits : ∀ S, S < 64 → ∀ a, a < 6 → ∀ b, b < 6 → ((nI S >>> (nI a &&& 31)) &&& (nI S >>> (nI b &&& 31))) &&& (1 : Int32) = nI (S / 2 ^ a % 2 * (S / 2 ^ b % 2)) := by decide +kernel
/-- alike -/
def z_al (C a b : Nat) : Nat := if C / 2 ^ a % 2 = C / 2 ^ b % 2 then 1 else 0
theorem z_al_le (C a b : Nat) : z_al C a b ≤ 1 := by unfold z_al; split <;> omega
theorem z_al_sym (C a b : Nat) : z_al C a b = z_al C b a := by
  unfold z_al
  by_cases h : C / 2 ^ a % 2 = C / 2 ^ b % 2
  · rw [if_pos h, if_pos h.symm]
  · rw [if_neg h, if_neg (fun q => h q.symm)]
def z_m (J : Nat → Nat) (S C a b : Nat) : Nat := (J a / 2 ^ b % 2) * (S / 2 ^ a % 2 * (S / 2 ^ b % 2)) * z_al C a b
/-- LINES of the set S that join like ones of the colouring C -/
def z_far (J : Nat → Nat) (S C : Nat) : Nat := z_sum (fun a => z_sum (fun b => z_m J S C a b) a) 6
def Nt (f : Nat → Int32) (J : Nat → Nat) : Prop := ∀ a, a < 6 → J a < 64 ∧ f a = nI (J a)
def Sy (J : Nat → Nat) : Prop := (∀ a, a < 6 → ∀ b, b < 6 → J a / 2 ^ b % 2 = J b / 2 ^ a % 2) ∧ ∀ a, a < 6 → J a / 2 ^ a % 2 = 0
theorem z_b01 (x b : Nat) : x / 2 ^ b % 2 = 0 ∨ x / 2 ^ b % 2 = 1 := by have : x / 2 ^ b % 2 < 2 := Nat.mod_lt _ (by decide); omega
theorem z_m_le (J : Nat → Nat) (S C a b : Nat) : z_m J S C a b ≤ 1 := by
  unfold z_m
  have := z_al_le C a b
  rcases z_b01 (J a) b with h1 | h1 <;> rcases z_b01 S a with h2 | h2 <;> rcases z_b01 S b with h3 | h3 <;> rw [h1, h2, h3] <;> omega
theorem z_far_le (J : Nat → Nat) (S C : Nat) : z_far J S C ≤ 36 := by
  have := z_sum_le (g := fun a => z_sum (fun b => z_m J S C a b) a) (n := 6) (m := 6) (fun a ha => by
    have := z_sum_le (g := fun b => z_m J S C a b) (n := a) (m := 1) (fun b _ => z_m_le J S C a b)
    omega)
  unfold z_far
  omega
theorem z_twice (m : Nat → Nat → Nat) (hs : ∀ a, a < 6 → ∀ b, b < 6 → m a b = m b a) (hd : ∀ a, a < 6 → m a a = 0) : z_sum (fun a => z_sum (fun b => m a b) 6) 6 = 2 * z_sum (fun a => z_sum (fun b => m a b) a) 6 := by
  have d0 := hd 0 (by decide)
  have d1 := hd 1 (by decide)
  have d2 := hd 2 (by decide)
  have d3 := hd 3 (by decide)
  have d4 := hd 4 (by decide)
  have d5 := hd 5 (by decide)
  have s01 := hs 0 (by decide) 1 (by decide)
  have s02 := hs 0 (by decide) 2 (by decide)
  have s03 := hs 0 (by decide) 3 (by decide)
  have s04 := hs 0 (by decide) 4 (by decide)
  have s05 := hs 0 (by decide) 5 (by decide)
  have s12 := hs 1 (by decide) 2 (by decide)
  have s13 := hs 1 (by decide) 3 (by decide)
  have s14 := hs 1 (by decide) 4 (by decide)
  have s15 := hs 1 (by decide) 5 (by decide)
  have s23 := hs 2 (by decide) 3 (by decide)
  have s24 := hs 2 (by decide) 4 (by decide)
  have s25 := hs 2 (by decide) 5 (by decide)
  have s34 := hs 3 (by decide) 4 (by decide)
  have s35 := hs 3 (by decide) 5 (by decide)
  have s45 := hs 4 (by decide) 5 (by decide)
  simp only [z_sum]
  omega
theorem z_far_twice {J : Nat → Nat} (hs : Sy J) (S C : Nat) : z_sum (fun a => z_sum (fun b => z_m J S C a b) 6) 6 = 2 * z_far J S C := by
  refine z_twice (fun a b => z_m J S C a b) (fun a ha b hb => ?_) (fun a ha => ?_)
  · show z_m J S C a b = z_m J S C b a
    unfold z_m
    rw [hs.1 a ha b hb, z_al_sym C a b, Nat.mul_comm (S / 2 ^ a % 2)]
  · show z_m J S C a a = 0
    unfold z_m
    rw [hs.2 a ha, Nat.zero_mul, Nat.zero_mul]
/-- the bits of one POINT's like neighbours -/
theorem z_one {x S C a : Nat} (hx : x < 64) (hS : S < 64) (hC : C < 64) (ha : a < 6) : ∃ k, k < 64 ∧ (∀ r, fX1_alikeTo (nI a) (nI C) = some r → (nI x &&& nI S) &&& r = nI k) ∧ (∃ r, fX1_alikeTo (nI a) (nI C) = some r) ∧ z_pc k = z_sum (fun b => (x / 2 ^ b % 2) * (S / 2 ^ b % 2) * z_al C a b) 6 := by
  obtain ⟨e1, l1⟩ := z_and64 x hx S hS
  have eb : (nI C >>> (nI a &&& 31)) &&& (1 : Int32) = nI (C / 2 ^ a % 2) := z_bit (by omega) (by omega)
  rcases z_b01 C a with h0 | h1
  · obtain ⟨e2, l2⟩ := z_not64 _ l1 C hC
    have er : fX1_alikeTo (nI a) (nI C) = some (nI C ^^^ (-1 : Int32)) := by
      unfold fX1_alikeTo
      rw [eb, h0, if_neg (by decide)]
    refine ⟨_, l2, fun r hr => ?_, ⟨_, er⟩, ?_⟩
    · rw [er] at hr
      cases hr
      rw [e1, e2]
    · rw [z_pc6 _ l2]
      refine z_sum_congr (fun b hb => ?_)
      rw [z_andb, z_andb, (z_x63 C hC).2 b hb]
      unfold z_al
      rw [h0]
      rcases z_b01 C b with q | q <;> rw [q] <;> simp
  · obtain ⟨e2, l2⟩ := z_and64 _ l1 C hC
    have er : fX1_alikeTo (nI a) (nI C) = some (nI C) := by
      unfold fX1_alikeTo
      rw [eb, h1, if_pos (by rfl)]
    refine ⟨_, l2, fun r hr => ?_, ⟨_, er⟩, ?_⟩
    · rw [er] at hr
      cases hr
      rw [e1, e2]
    · rw [z_pc6 _ l2]
      refine z_sum_congr (fun b hb => ?_)
      rw [z_andb, z_andb]
      unfold z_al
      rw [h1]
      rcases z_b01 C b with q | q <;> rw [q] <;> simp
theorem z_row_m {J : Nat → Nat} (S C a : Nat) : z_sum (fun b => z_m J S C a b) 6 = (S / 2 ^ a % 2) * z_sum (fun b => (J a / 2 ^ b % 2) * (S / 2 ^ b % 2) * z_al C a b) 6 := by
  rcases z_b01 S a with h | h
  · rw [h, Nat.zero_mul]
    exact z_sum_zero (fun b _ => by unfold z_m; rw [h]; simp)
  · rw [h, Nat.one_mul]
    refine z_sum_congr (fun b _ => ?_)
    unfold z_m
    rw [h, Nat.one_mul]
theorem m_likeLines {f : Nat → Int32} {J : Nat → Nat} {S C : Nat} (hN : Nt f J) (hs : Sy J) (hS : S < 64) (hC : C < 64) : fX1_likeLines f (nI S) (nI C) = some (nI (z_far J S C)) := by
  have h : fX1_likeLines_L5 FU (nI S) (nI C) (nI (z_sum (fun a => z_sum (fun b => z_m J S C a b) 6) 0)) (nI 0) f = some (nI (z_sum (fun a => z_sum (fun b => z_m J S C a b) 6) 6), nI 6) :=
    lp_FU (fun fuel k => fX1_likeLines_L5 fuel (nI S) (nI C) (nI (z_sum (fun a => z_sum (fun b => z_m J S C a b) 6) k)) (nI k) f) 6 _ (by decide) 0 (by decide)
    (by
      intro k fuel hk
      have c : ¬ (6 : Int32) ≤ nI k := nI_ge hk (by decide)
      have hJ := hN k hk
      have es : z_sum (fun a => z_sum (fun b => z_m J S C a b) 6) (k + 1) = z_sum (fun a => z_sum (fun b => z_m J S C a b) 6) k + (S / 2 ^ k % 2) * z_sum (fun b => (J k / 2 ^ b % 2) * (S / 2 ^ b % 2) * z_al C k b) 6 := by
        rw [← z_row_m]; rfl
      try dsimp only
      rw [fX1_likeLines_L5_s, if_neg c, z_bit (by omega) (by omega), es, nI_1']
      rcases z_b01 S k with q | q
      · rw [q, if_neg (by decide), Nat.zero_mul]; rfl
      · obtain ⟨kk, hkk, h1, ⟨r, hr⟩, h2⟩ := z_one hJ.1 hS hC hk
        rw [q, if_pos (by rfl), Nat.one_mul, gin_nI hk (by decide), bd_of hr, nI_clamp (by omega), hJ.2, h1 r hr, bd_of (m_bitCount kk (by omega)), h2, nI_add])
    (by
      intro fuel
      try dsimp only
      rw [fX1_likeLines_L5_s, if_pos (by decide)])
  unfold fX1_likeLines
  refine (bd_of h).trans ?_
  have hb := z_far_le J S C
  show some (nI (z_sum (fun a => z_sum (fun b => z_m J S C a b) 6) 6) / (2 : Int32)) = _
  rw [z_far_twice hs, z_div2 (by omega), Nat.mul_div_cancel_left _ (by decide)]
theorem m_netFar {f : Nat → Int32} {J : Nat → Nat} {S C : Nat} (hN : Nt f J) (hS : S < 64) (hC : C < 64) : fX5_netFar f (nI C) (nI S) = some (nI (z_far J S C)) := by
  have inner : ∀ (A a : Nat), a < 6 → fX5_netFar_L15 FU (nI C) (nI S) (nI A) (nI a) (nI 0) f = some (nI (A + z_sum (fun b => z_m J S C a b) a), nI a) := by
    intro A a ha
    have hJ := hN a ha
    exact lp_FU (fun fuel k => fX5_netFar_L15 fuel (nI C) (nI S) (nI (A + z_sum (fun b => z_m J S C a b) k)) (nI a) (nI k) f) a _ (by omega) 0 (by omega)
      (by
        intro k fuel hk
        have c : ¬ nI a ≤ nI k := nI_ge hk (by omega)
        try dsimp only
        rw [fX5_netFar_L15_s, if_neg c, gin_nI ha (by decide), nI_clamp (by omega), hJ.2, z_bit (by omega) (by omega), z_2bits S hS a ha k (by omega), z_bit (by omega) (by omega), z_bit (by omega) (by omega), nI_1', nI_1', nI_add0, z_sum_s]
        have em : z_m J S C a k = (J a / 2 ^ k % 2) * (S / 2 ^ a % 2 * (S / 2 ^ k % 2)) * z_al C a k := rfl
        rcases z_b01 (J a) k with q | q
        · rw [q, if_neg (by decide), bd_s, if_pos (by rfl), em, q, Nat.zero_mul, Nat.zero_mul]; rfl
        · rw [q, if_pos (by rfl), em, q, Nat.one_mul]
          rcases (show S / 2 ^ a % 2 * (S / 2 ^ k % 2) = 0 ∨ S / 2 ^ a % 2 * (S / 2 ^ k % 2) = 1 by rcases z_b01 S a with h2 | h2 <;> rcases z_b01 S k with h3 | h3 <;> rw [h2, h3] <;> decide) with w | w
          · rw [w, if_neg (by decide), bd_s, if_pos (by rfl), Nat.zero_mul]; rfl
          · rw [w, if_pos (by rfl), bd_s, if_neg (by decide), Nat.one_mul]
            unfold z_al
            by_cases e : C / 2 ^ a % 2 = C / 2 ^ k % 2
            · rw [if_pos (by rw [e]), if_pos e]; rfl
            · rw [if_neg (fun z => e ((nI_eq (by omega) (by omega)).mp z)), if_neg e]; rfl)
      (by
        intro fuel
        try dsimp only
        rw [fX5_netFar_L15_s, if_pos (nI_le (Nat.le_refl a) (by omega))])
  have h : fX5_netFar_L5 FU (nI C) (nI S) (nI (z_sum (fun a => z_sum (fun b => z_m J S C a b) a) 0)) (nI 0) f = some (nI (z_far J S C), nI 6) :=
    lp_FU (fun fuel k => fX5_netFar_L5 fuel (nI C) (nI S) (nI (z_sum (fun a => z_sum (fun b => z_m J S C a b) a) k)) (nI k) f) 6 _ (by decide) 0 (by decide)
    (by
      intro k fuel hk
      have c : ¬ (6 : Int32) ≤ nI k := nI_ge hk (by decide)
      try dsimp only
      rw [fX5_netFar_L5_s, if_neg c, show (0 : Int32) = nI 0 from rfl, bd_of (inner _ k hk), nI_1']
      rfl)
    (by
      intro fuel
      try dsimp only
      rw [fX5_netFar_L5_s, if_pos (by decide)]
      rfl)
  unfold fX5_netFar
  exact (bd_of h).trans rfl
/-- the least best colouring of a set -/
def z_bc (J : Nat → Nat) (S : Nat) : Nat := 2 * z_am (fun k => z_far J S (2 * k)) 32
theorem z_bc_lt (J : Nat → Nat) (S : Nat) : z_bc J S < 64 := by
  have : z_am (fun k => z_far J S (2 * k)) 32 ≤ 31 := z_am_le (fun k => z_far J S (2 * k)) 31
  unfold z_bc
  omega
theorem z_am_lt (far : Nat → Nat) {k n : Nat} (h1 : 1 ≤ k) (hk : k ≤ n) : z_am far k < n := by
  obtain ⟨j, rfl⟩ : ∃ j, k = j + 1 := ⟨k - 1, by omega⟩
  have := z_am_le far j
  omega
theorem m_bestColouringOf {f : Nat → Int32} {J : Nat → Nat} {S : Nat} (hN : Nt f J) (hs : Sy J) (hS : S < 64) : fX1_bestColouringOf f (nI S) = some (nI (z_bc J S)) := by
  have h : fX1_bestColouringOf_L12 FU (nI S) (nI (2 * z_am (fun k => z_far J S (2 * k)) 1)) (nI (z_far J S (2 * z_am (fun k => z_far J S (2 * k)) 1))) (nI (2 * 1)) f = some (nI (z_bc J S), nI (z_far J S (z_bc J S)), nI (2 * 32)) :=
    lp_FU2 (fun fuel k => fX1_bestColouringOf_L12 fuel (nI S) (nI (2 * z_am (fun k => z_far J S (2 * k)) k)) (nI (z_far J S (2 * z_am (fun k => z_far J S (2 * k)) k))) (nI (2 * k)) f) 32 _ (by decide) 1 (by decide)
    (by
      intro k fuel h1 hk
      have c : ¬ (63 : Int32) < nI (2 * k) := nI_nlt (a := 63) (b := 2 * k) (by omega) (by omega)
      have q1 := z_far_le J S (2 * k)
      have q2 := z_far_le J S (2 * z_am (fun k => z_far J S (2 * k)) k)
      try dsimp only
      rw [fX1_bestColouringOf_L12_s, if_neg c, bd_of (m_likeLines hN hs hS (by omega)), show (2 : Int32) = nI 2 from rfl, nI_add, show 2 * k + 2 = 2 * (k + 1) by omega]
      have es : z_am (fun k => z_far J S (2 * k)) (k + 1) = if z_far J S (2 * k) < z_far J S (2 * z_am (fun k => z_far J S (2 * k)) k) then k else z_am (fun k => z_far J S (2 * k)) k := rfl
      rw [es]
      by_cases e : z_far J S (2 * k) < z_far J S (2 * z_am (fun k => z_far J S (2 * k)) k)
      · rw [if_neg (nI_ge e (by omega)), if_pos e]
      · rw [if_pos (nI_le (by omega) (by omega)), if_neg e])
    (by
      intro fuel
      try dsimp only
      rw [fX1_bestColouringOf_L12_s, if_pos (by decide)]
      rfl)
  have e1 : z_am (fun k => z_far J S (2 * k)) 1 = 0 := Nat.le_zero.mp (z_am_le _ 0)
  rw [e1] at h
  unfold fX1_bestColouringOf
  rw [show (0 : Int32) = nI 0 from rfl, bd_of (m_likeLines hN hs hS (by decide))]
  exact (bd_of h).trans rfl
theorem m_nearestNet {f : Nat → Int32} {J : Nat → Nat} {S : Nat} (hN : Nt f J) (hS : S < 64) : fX5_nearestNet f (nI S) = some (nI (z_bc J S)) := by
  have h : fX5_nearestNet_L4 FU (nI S) (nI (2 * z_am (fun k => z_far J S (2 * k)) 1)) (nI (2 * 1)) f = some (nI (z_bc J S), nI (2 * 32)) :=
    lp_FU2 (fun fuel k => fX5_nearestNet_L4 fuel (nI S) (nI (2 * z_am (fun k => z_far J S (2 * k)) k)) (nI (2 * k)) f) 32 _ (by decide) 1 (by decide)
    (by
      intro k fuel h1 hk
      have c : ¬ (64 : Int32) ≤ nI (2 * k) := nI_ge (a := 2 * k) (b := 64) (by omega) (by decide)
      have q1 := z_far_le J S (2 * k)
      have q2 := z_far_le J S (2 * z_am (fun k => z_far J S (2 * k)) k)
      have q3 := z_am_lt (fun k => z_far J S (2 * k)) (k := k) (n := 32) h1 (by omega)
      try dsimp only
      rw [fX5_nearestNet_L4_s, if_neg c, bd_of (m_netFar hN hS (by omega)), bd_of (m_netFar hN hS (by omega)), show (2 : Int32) = nI 2 from rfl, nI_add, show 2 * k + 2 = 2 * (k + 1) by omega]
      have es : z_am (fun k => z_far J S (2 * k)) (k + 1) = if z_far J S (2 * k) < z_far J S (2 * z_am (fun k => z_far J S (2 * k)) k) then k else z_am (fun k => z_far J S (2 * k)) k := rfl
      rw [es]
      by_cases e : z_far J S (2 * k) < z_far J S (2 * z_am (fun k => z_far J S (2 * k)) k)
      · rw [if_neg (nI_ge e (by omega)), if_pos e]
      · rw [if_pos (nI_le (by omega) (by omega)), if_neg e])
    (by
      intro fuel
      try dsimp only
      rw [fX5_nearestNet_L4_s, if_pos (by decide)]
      rfl)
  have e1 : z_am (fun k => z_far J S (2 * k)) 1 = 0 := Nat.le_zero.mp (z_am_le _ 0)
  rw [e1] at h
  unfold fX5_nearestNet
  exact (bd_of h).trans rfl
/-- a set is two-coloured: 1, or 0 -/
def z_tc (J : Nat → Nat) (S : Nat) : Nat := if z_far J S (z_bc J S) = 0 then 1 else 0
theorem m_twoColoured {f : Nat → Int32} {J : Nat → Nat} {S : Nat} (hN : Nt f J) (hs : Sy J) (hS : S < 64) : fX1_twoColoured f (nI S) = some (nI (z_tc J S)) := by
  have q := z_far_le J S (z_bc J S)
  unfold fX1_twoColoured z_tc
  rw [bd_of (m_bestColouringOf hN hs hS), bd_of (m_likeLines hN hs hS (z_bc_lt J S))]
  by_cases e : z_far J S (z_bc J S) = 0
  · rw [if_pos e, e]; rfl
  · rw [if_neg e, if_neg (show ¬ nI (z_far J S (z_bc J S)) = (0 : Int32) from fun z => e ((nI_eq (b := 0) (by omega) (by decide)).mp z))]; rfl
theorem m_passesNet {f : Nat → Int32} {J : Nat → Nat} {S : Nat} (hN : Nt f J) (hS : S < 64) : fX5_passesNet f (nI S) = some (nI (z_tc J S)) := by
  have q := z_far_le J S (z_bc J S)
  unfold fX5_passesNet z_tc
  rw [bd_of (m_nearestNet hN hS), bd_of (m_netFar hN hS (z_bc_lt J S))]
  by_cases e : z_far J S (z_bc J S) = 0
  · rw [if_pos e, e]; rfl
  · rw [if_neg e, if_neg (show ¬ nI (z_far J S (z_bc J S)) = (0 : Int32) from fun z => e ((nI_eq (b := 0) (by omega) (by decide)).mp z))]; rfl
theorem z_tc_01 (J : Nat → Nat) (S : Nat) : z_tc J S = 0 ∨ z_tc J S = 1 := by unfold z_tc; split <;> simp
theorem z_pc_le (k : Nat) : z_pc k ≤ 8 := by
  have := z_sum_le (g := fun b => k / 2 ^ b % 2) (n := 8) (m := 1) (fun b _ => by have : k / 2 ^ b % 2 < 2 := Nat.mod_lt _ (by decide); omega)
  unfold z_pc
  omega
def z_ns (k : Nat) : Nat := z_sum (fun s => if z_pc s = k then 1 else 0) 64
def z_np (J : Nat → Nat) (k : Nat) : Nat := z_sum (fun s => if z_pc s = k then z_tc J s else 0) 64
theorem m_sets {k : Nat} (hk : k < 100) : fX1_sets (nI k) = some (nI (z_ns k)) := by
  have h : fX1_sets_L4 FU (nI k) (nI (z_sum (fun s => if z_pc s = k then 1 else 0) 0)) (nI 0) = some (nI (z_ns k), nI 64) :=
    lp_FU (fun fuel j => fX1_sets_L4 fuel (nI k) (nI (z_sum (fun s => if z_pc s = k then 1 else 0) j)) (nI j)) 64 _ (by decide) 0 (by decide)
    (by
      intro j fuel hj
      have c : ¬ (63 : Int32) < nI j := nI_nlt (a := 63) (b := j) (by omega) (by omega)
      have q := z_pc_le j
      try dsimp only
      rw [fX1_sets_L4_s, if_neg c, bd_of (m_bitCount j (by omega)), nI_1', nI_1', z_sum_s]
      by_cases e : z_pc j = k
      · rw [if_pos (by rw [e]), if_pos e]
      · rw [if_neg (fun z => e ((nI_eq (by omega) (by omega)).mp z)), if_neg e]; rfl)
    (by
      intro fuel
      try dsimp only
      rw [fX1_sets_L4_s, if_pos (by decide)]
      rfl)
  unfold fX1_sets
  exact (bd_of h).trans rfl
theorem m_npassing {f : Nat → Int32} {J : Nat → Nat} {k : Nat} (hN : Nt f J) (hs : Sy J) (hk : k < 100) : fX1_passing f (nI k) = some (nI (z_np J k)) := by
  have h : fX1_passing_L4 FU (nI k) (nI (z_sum (fun s => if z_pc s = k then z_tc J s else 0) 0)) (nI 0) f = some (nI (z_np J k), nI 64) :=
    lp_FU (fun fuel j => fX1_passing_L4 fuel (nI k) (nI (z_sum (fun s => if z_pc s = k then z_tc J s else 0) j)) (nI j) f) 64 _ (by decide) 0 (by decide)
    (by
      intro j fuel hj
      have c : ¬ (63 : Int32) < nI j := nI_nlt (a := 63) (b := j) (by omega) (by omega)
      have q := z_pc_le j
      try dsimp only
      rw [fX1_passing_L4_s, if_neg c, bd_of (m_bitCount j (by omega)), nI_1', nI_1', z_sum_s]
      by_cases e : z_pc j = k
      · rw [if_pos (by rw [e]), if_pos e, bd_of (m_twoColoured hN hs hj)]
        rcases z_tc_01 J j with w | w
        · rw [w, if_pos (by rfl)]; rfl
        · rw [w, if_neg (by decide)]
      · rw [if_neg (fun z => e ((nI_eq (by omega) (by omega)).mp z)), if_neg e]; rfl)
    (by
      intro fuel
      try dsimp only
      rw [fX1_passing_L4_s, if_pos (by decide)]
      rfl)
  unfold fX1_passing
  exact (bd_of h).trans rfl
theorem m_ones {k : Nat} (hk : k < 2 ^ 31) : fX5_ones (nI k) = some (nI (z_pc k)) := by
  have h : fX5_ones_L4 FU (nI k) (nI (z_sum (fun b => k / 2 ^ b % 2) 0)) (nI 0) = some (nI (z_pc k), nI 8) := lp_FU (fun fuel j => fX5_ones_L4 fuel (nI k) (nI (z_sum (fun b => k / 2 ^ b % 2) j)) (nI j)) 8 _ (by decide) 0 (by decide)
    (by
      intro j fuel hj
      have c : ¬ (8 : Int32) ≤ nI j := nI_ge hj (by decide)
      try dsimp only
      rw [fX5_ones_L4_s, if_neg c, z_bit hk (by omega), nI_add, nI_1', z_sum_s])
    (by
      intro fuel
      try dsimp only
      rw [fX5_ones_L4_s, if_pos (by decide)]
      rfl)
  unfold fX5_ones
  exact (bd_of h).trans rfl
theorem m_countNet {f : Nat → Int32} {J : Nat → Nat} {k : Nat} (hN : Nt f J) (hk : k < 100) (A0 B0 : Int64) : fX5_countNet (nI k) A0 B0 f = some (lN (z_np J k), lN (z_ns k)) := by
  have h : fX5_countNet_L12 FU (nI 0) (nI k) (lN (z_sum (fun s => if z_pc s = k then z_tc J s else 0) 0)) (lN (z_sum (fun s => if z_pc s = k then 1 else 0) 0)) f = some (nI 64, lN (z_np J k), lN (z_ns k)) :=
    lp_FU (fun fuel j => fX5_countNet_L12 fuel (nI j) (nI k) (lN (z_sum (fun s => if z_pc s = k then z_tc J s else 0) j)) (lN (z_sum (fun s => if z_pc s = k then 1 else 0) j)) f) 64 _ (by decide) 0 (by decide)
    (by
      intro j fuel hj
      have c : ¬ (64 : Int32) ≤ nI j := nI_ge hj (by decide)
      have q := z_pc_le j
      try dsimp only
      rw [fX5_countNet_L12_s, if_neg c, bd_of (m_ones (k := j) (by omega)), nI_1', lN_1', z_sum_s, z_sum_s]
      by_cases e : z_pc j = k
      · rw [if_pos (by rw [e]), if_pos e, if_pos e, bd_of (m_passesNet hN hj)]
        rcases z_tc_01 J j with w | w
        · rw [w, if_pos (by rfl), bd_s, lN_0']; rfl
        · rw [w, if_neg (by decide), bd_s, lN_1']
      · rw [if_neg (fun z => e ((nI_eq (by omega) (by omega)).mp z)), if_neg e, if_neg e]; rfl)
    (by
      intro fuel
      try dsimp only
      rw [fX5_countNet_L12_s, if_pos (by decide)]
      rfl)
  unfold fX5_countNet
  exact (bd_of h).trans rfl
theorem m_count2 {f : Nat → Int32} {J : Nat → Nat} (hN : Nt f J) (hs : Sy J) : ∃ r : Int32 × Int32, fX5_count_L48 FU (0 : Int32) (0 : Int32) f = some r ∧ r.1 / (2 : Int32) = nI (z_far J 63 0) := by
  have h : fX5_count_L48 FU (nI (z_sum (fun a => z_pc (J a)) 0)) (nI 0) f = some (nI (z_sum (fun a => z_pc (J a)) 6), nI 6) :=
    lp_FU (fun fuel j => fX5_count_L48 fuel (nI (z_sum (fun a => z_pc (J a)) j)) (nI j) f) 6 _ (by decide) 0 (by decide)
    (by
      intro j fuel hj
      have c : ¬ (6 : Int32) ≤ nI j := nI_ge hj (by decide)
      have hJ := hN j hj
      try dsimp only
      rw [fX5_count_L48_s, if_neg c, gin_nI hj (by decide), nI_clamp (by omega), hJ.2, bd_of (m_ones (by omega)), nI_add, nI_1', z_sum_s])
    (by
      intro fuel
      try dsimp only
      rw [fX5_count_L48_s, if_pos (by decide)])
  refine ⟨_, h, ?_⟩
  have e : z_sum (fun a => z_pc (J a)) 6 = 2 * z_far J 63 0 := by
    rw [← z_far_twice hs]
    refine z_sum_congr (fun a ha => ?_)
    rw [z_pc6 _ (hN a ha).1]
    refine z_sum_congr (fun b hb => ?_)
    have e1 : ∀ x, x < 6 → 63 / 2 ^ x % 2 = 1 := by decide
    unfold z_m z_al
    rw [e1 a ha, e1 b hb]
    simp
  have hb := z_far_le J 63 0
  show nI (z_sum (fun a => z_pc (J a)) 6) / (2 : Int32) = _
  rw [e, z_div2 (by omega), Nat.mul_div_cancel_left _ (by decide)]
-- cutting the LINES that join like ones
def z_cut (J : Nat → Nat) (C a : Nat) : Nat := if C / 2 ^ a % 2 = 1 then J a &&& (63 ^^^ C) else J a &&& C
theorem z_cut_lt {J : Nat → Nat} {C a : Nat} (hC : C < 64) (hJ : J a < 64) : z_cut J C a < 64 := by
  unfold z_cut
  split
  · exact (z_not64 _ hJ C hC).2
  · exact (z_and64 _ hJ C hC).2
theorem z_cut_bit {J : Nat → Nat} {C a b : Nat} (hC : C < 64) (hb : b < 6) : z_cut J C a / 2 ^ b % 2 = (J a / 2 ^ b % 2) * (1 - z_al C a b) := by
  unfold z_cut z_al
  rcases z_b01 C a with h | h
  · rw [h, if_neg (by decide), z_andb]
    rcases z_b01 C b with q | q <;> rw [q] <;> simp
  · rw [h, if_pos rfl, z_andb, (z_x63 C hC).2 b hb]
    rcases z_b01 C b with q | q <;> rw [q] <;> simp
theorem z_cut_Sy {J : Nat → Nat} {C : Nat} (hC : C < 64) (hs : Sy J) : Sy (z_cut J C) := by
  refine ⟨fun a ha b hb => ?_, fun a ha => ?_⟩
  · rw [z_cut_bit hC hb, z_cut_bit hC ha, hs.1 a ha b hb, z_al_sym C a b]
  · rw [z_cut_bit hC ha, hs.2 a ha, Nat.zero_mul]
theorem m_cutLikeLines {f : Nat → Int32} {J : Nat → Nat} {C : Nat} (hN : Nt f J) (hC : C < 64) : ∃ f', fX1_cutLikeLines f (nI C) = some f' ∧ Nt f' (z_cut J C) := by
  have h : fX1_cutLikeLines_L2 FU (nI C) (nI 0) (z_fl (fun a => nI (z_cut J C a)) f 0) = some (nI 6, z_fl (fun a => nI (z_cut J C a)) f 6) := lp_FU (fun fuel k => fX1_cutLikeLines_L2 fuel (nI C) (nI k) (z_fl (fun a => nI (z_cut J C a)) f k)) 6 _ (by decide) 0 (by decide)
    (by
      intro k fuel hk
      have c : ¬ (6 : Int32) ≤ nI k := nI_ge hk (by decide)
      have hJ := hN k hk
      have eb : (nI C >>> (nI k &&& 31)) &&& (1 : Int32) = nI (C / 2 ^ k % 2) := z_bit (by omega) (by omega)
      have step : ∃ r, fX1_alikeTo (nI k) (nI C) = some r ∧ nI (J k) &&& (r ^^^ (-1 : Int32)) = nI (z_cut J C k) := by
        rcases z_b01 C k with q | q
        · refine ⟨nI C ^^^ (-1 : Int32), ?_, ?_⟩
          · unfold fX1_alikeTo; rw [eb, q, if_neg (by decide)]
          · unfold z_cut; rw [if_neg (by omega)]; exact (z_not2 _ hJ.1 C hC).1
        · refine ⟨nI C, ?_, ?_⟩
          · unfold fX1_alikeTo; rw [eb, q, if_pos (by rfl)]
          · unfold z_cut; rw [if_pos q]; exact (z_not64 _ hJ.1 C hC).1
      obtain ⟨r, hr, h2⟩ := step
      try dsimp only
      rw [fX1_cutLikeLines_L2_s, if_neg c, gin_nI hk (by decide), bd_of hr, gin_nI hk (by decide), nI_clamp (by omega), nI_1', z_fl_out (Nat.le_refl k), hJ.2, h2]
      exact congrArg (fun z => fX1_cutLikeLines_L2 fuel (nI C) (nI (k + 1)) z) (z_fl_s' _ _ _ _ rfl))
    (by
      intro fuel
      try dsimp only
      rw [fX1_cutLikeLines_L2_s, if_pos (by decide)])
  rw [z_fl_0] at h
  refine ⟨z_fl (fun a => nI (z_cut J C a)) f 6, ?_, fun a ha => ⟨z_cut_lt hC (hN a ha).1, z_fl_in ha⟩⟩
  unfold fX1_cutLikeLines
  exact (bd_of h).trans rfl
theorem m_mendNet {f : Nat → Int32} {J : Nat → Nat} {C : Nat} (hN : Nt f J) (hC : C < 64) : ∃ r : Int32 × (Nat → Int32), fX5_mend_L84 FU (nI C) (0 : Int32) f = some r ∧ Nt r.2 (z_cut J C) := by
  have h : fX5_mend_L84 FU (nI C) (nI 0) (z_fl (fun a => nI (z_cut J C a)) f 0) = some (nI 6, z_fl (fun a => nI (z_cut J C a)) f 6) := lp_FU (fun fuel k => fX5_mend_L84 fuel (nI C) (nI k) (z_fl (fun a => nI (z_cut J C a)) f k)) 6 _ (by decide) 0 (by decide)
    (by
      intro k fuel hk
      have c : ¬ (6 : Int32) ≤ nI k := nI_ge hk (by decide)
      have hJ := hN k hk
      have eb : (nI C >>> (nI k &&& 31)) &&& (1 : Int32) = nI (C / 2 ^ k % 2) := z_bit (by omega) (by omega)
      try dsimp only
      rw [fX5_mend_L84_s, if_neg c, eb]
      rcases z_b01 C k with q | q
      · rw [q, if_neg (by decide), bd_s, gin_nI hk (by decide), gin_nI hk (by decide), nI_clamp (by omega), nI_1', z_fl_out (Nat.le_refl k), hJ.2, (z_not2 _ hJ.1 C hC).2]
        exact congrArg (fun z => fX5_mend_L84 fuel (nI C) (nI (k + 1)) z) (z_fl_s' _ _ _ _ (by unfold z_cut; rw [if_neg (by omega)]))
      · rw [q, if_pos (by rfl), bd_s, gin_nI hk (by decide), gin_nI hk (by decide), nI_clamp (by omega), nI_1', z_fl_out (Nat.le_refl k), hJ.2, (z_not64 _ hJ.1 C hC).1]
        exact congrArg (fun z => fX5_mend_L84 fuel (nI C) (nI (k + 1)) z) (z_fl_s' _ _ _ _ (by unfold z_cut; rw [if_pos q])))
    (by
      intro fuel
      try dsimp only
      rw [fX5_mend_L84_s, if_pos (by decide)])
  rw [z_fl_0] at h
  exact ⟨_, h, fun a ha => ⟨z_cut_lt hC (hN a ha).1, z_fl_in (v := fun a => nI (z_cut J C a)) (f := f) ha⟩⟩
