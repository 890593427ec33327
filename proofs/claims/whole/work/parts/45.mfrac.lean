/-! fractions in lowest terms, repeats -/
theorem m_lowestTerm {a b part : Nat} (hb : 1 ≤ b) (hbl : b < 1000) (hal : a < 1000) (hp : part < 2) : fX4_lowestTerm (nI a) (nI b) (nI part) = some (nI ((if part = 0 then a else b) / Nat.gcd a b)) := by
  have hb2 : b < 2 ^ 31 := by omega
  have ha : a < 2 ^ 31 := by omega
  obtain ⟨t, ht⟩ : ∃ t, t = if part = 0 then a else b := ⟨_, rfl⟩
  have htl : t < 2 ^ 31 := by rw [ht]; split <;> assumption
  have hg : 0 < Nat.gcd a b := Nat.gcd_pos_of_pos_right a (by omega)
  have key : ∀ (d fuel : Nat), 1 ≤ d → d < fuel → d < 2 ^ 31 → Nat.gcd a b ≤ d → ∃ r, fX4_lowestTerm_L13 fuel (nI a) (nI b) (nI t) (nI d) = some r ∧ (r = .inl (nI (t / Nat.gcd a b)) ∨ (∃ q, r = .inr q) ∧ Nat.gcd a b = 1) := by
    intro d
    induction d with
    | zero => intro fuel h1; omega
    | succ d ih =>
      intro fuel h1 hf hl hgd
      cases fuel with
      | zero => omega
      | succ fuel =>
        rw [fX4_lowestTerm_L13_s]
        by_cases e1 : d = 0
        · subst e1
          rw [if_pos (show nI (0 + 1) ≤ (1 : Int32) from by decide)]
          exact ⟨_, rfl, Or.inr ⟨⟨_, rfl⟩, by omega⟩⟩
        · have hne : ¬ nI (d + 1) = 0 := nI_ne0 (by omega) hl
          have em : ∀ x, x < 2 ^ 31 → nI x - nI x / nI (d + 1) * nI (d + 1) = nI (x % (d + 1)) := fun x hx => pk_rem hx (by omega) hl
          have nz : ∀ x, ¬ x % (d + 1) = 0 → ¬ nI (x % (d + 1)) = (0 : Int32) := fun x hx q => hx ((nI_eq (b := 0) (by have := Nat.mod_lt x (show 0 < d + 1 by omega); omega) (by decide)).mp q)
          have dn : nI (d + 1) + (-1 : Int32) = nI d := pk_m1 d
          rw [if_neg (show ¬ nI (d + 1) ≤ (1 : Int32) from nI_ge (a := 1) (b := d + 1) (by omega) hl), gnz_of hne, em a ha]
          by_cases ea : a % (d + 1) = 0
          · rw [ea, if_pos (by rfl), gnz_of hne, em b hb2]
            by_cases eb : b % (d + 1) = 0
            · rw [eb, if_pos (by rfl), gnz_of hne]
              have hdiv : d + 1 ∣ Nat.gcd a b := Nat.dvd_gcd (Nat.dvd_of_mod_eq_zero ea) (Nat.dvd_of_mod_eq_zero eb)
              have hle := Nat.le_of_dvd hg hdiv
              refine ⟨_, rfl, Or.inl ?_⟩
              rw [pk_div htl (by omega) hl, show Nat.gcd a b = d + 1 by omega]
            · rw [if_neg (nz b eb), dn]
              refine ih fuel (by omega) (by omega) (by omega) ?_
              rcases Nat.lt_or_ge (Nat.gcd a b) (d + 1) with q | q
              · omega
              · exact absurd (Nat.mod_eq_zero_of_dvd (show d + 1 ∣ b by rw [show d + 1 = Nat.gcd a b by omega]; exact Nat.gcd_dvd_right a b)) eb
          · rw [if_neg (nz a ea), dn]
            refine ih fuel (by omega) (by omega) (by omega) ?_
            rcases Nat.lt_or_ge (Nat.gcd a b) (d + 1) with q | q
            · omega
            · exact absurd (Nat.mod_eq_zero_of_dvd (show d + 1 ∣ a by rw [show d + 1 = Nat.gcd a b by omega]; exact Nat.gcd_dvd_left a b)) ea
  have hq : (if nI part = 0 then some (nI a) else some (nI b)) = some (nI t) := by
    rw [ht]
    rcases (show part = 0 ∨ part = 1 by omega) with rfl | rfl
    · rfl
    · rfl
  obtain ⟨r, hr, hc⟩ := key b FU hb (by unfold FU; omega) hb2 (Nat.le_of_dvd (by omega) (Nat.gcd_dvd_right a b))
  unfold fX4_lowestTerm
  rw [bd_of hq, ← ht]
  rcases hc with hc | ⟨⟨q, hc⟩, h1⟩
  · rw [hc] at hr
    exact bs_l hr
  · rw [hc] at hr
    rw [bs_r hr, h1, Nat.div_one]
theorem z_lz {y : Nat} (hy : y < 2 ^ 63) (h : ¬ y = 0) : ¬ lN y = (0 : Int64) := fun q => h ((pk_lEQ (b := 0) hy (by decide)).mp q)
theorem m_reduce {a b : Nat} (hb : 1 ≤ b) (hbl : b < 1000) (hal : a < 1000) : fX5_reduce (lN a) (lN b) = some (lN (a / Nat.gcd a b), lN (b / Nat.gcd a b)) := by
  have key : ∀ (fuel x y : Nat), y < fuel → x < 1000 → y < 1000 → fX5_reduce_L10 fuel (lN x) (lN y) = some (lN (Nat.gcd x y), lN 0) := by
    intro fuel
    induction fuel with
    | zero => intro x y h; omega
    | succ fuel ih =>
      intro x y hf hx hy
      rw [fX5_reduce_L10_s]
      by_cases e : y = 0
      · subst e
        rw [if_pos ((lg_cmp_eq (lN 0) (0 : Int64)).mpr rfl), Nat.gcd_zero_right]
      · have nz := z_lz (y := y) (by omega) e
        have hm : x % y < y := Nat.mod_lt _ (by omega)
        rw [if_neg (fun q => nz ((lg_cmp_eq _ _).mp q)), gnl_of nz, pk_lRem (by omega) (by omega) (by omega), ih y (x % y) (by omega) hy (by omega)]
        have eg : Nat.gcd y (x % y) = Nat.gcd x y := by
          rw [Nat.gcd_comm y (x % y), ← Nat.gcd_rec, Nat.gcd_comm]
        rw [eg]
  have hg : 0 < Nat.gcd a b := Nat.gcd_pos_of_pos_right a (by omega)
  have hgl : Nat.gcd a b ≤ b := Nat.le_of_dvd (by omega) (Nat.gcd_dvd_right a b)
  have nz := z_lz (y := Nat.gcd a b) (by omega) (by omega)
  unfold fX5_reduce
  rw [bd_of (key FU a b (by unfold FU; omega) hal hbl)]
  show gnl (lN (Nat.gcd a b)) (gnl (lN (Nat.gcd a b)) (some (lN a / lN (Nat.gcd a b), lN b / lN (Nat.gcd a b)))) = _
  rw [gnl_of nz, gnl_of nz, pk_lDiv (by omega) (by omega) (by omega), pk_lDiv (by omega) (by omega) (by omega)]
/-- so many repeats (less one) catch -/
def z_rep (a b u v j : Nat) : Bool := decide (b ^ (j + 1) * u ≤ (b ^ (j + 1) - a ^ (j + 1)) * v)
theorem z_pow_le {b j : Nat} (hb : b ≤ 64) (hb1 : 1 ≤ b) (hj : j ≤ 9) : b ^ j ≤ 18014398509481984 := by
  have h1 : b ^ j ≤ 64 ^ j := Nat.pow_le_pow_left hb j
  have h2 : 64 ^ j ≤ 64 ^ 9 := Nat.pow_le_pow_right (by decide) hj
  have h3 : (64 : Nat) ^ 9 = 18014398509481984 := by decide
  omega
theorem m_repX {a b u v : Nat} (hab : a ≤ b) (hb : b ≤ 64) (hb1 : 1 ≤ b) (hu : u ≤ 100) (hv : v ≤ 100) : fX4_repeats_L54 FU (nI u) (nI v) (lN a) (lN b) (1 : Int64) (1 : Int64) (1 : Int32) = some (z_el (fun j => (.inl (nI (j + 1)) : Int32 ⊕ (Int64 × Int64 × Int32))) (.inr (lN (a ^ 9), lN (b ^ 9), nI 10)) (z_fd (z_rep a b u v) 9 0)) :=
  lp_findFU (fun fuel j => fX4_repeats_L54 fuel (nI u) (nI v) (lN a) (lN b) (lN (a ^ j)) (lN (b ^ j)) (nI (j + 1))) 9 (by decide) _ _ _
    (by
      intro k fuel hk hp
      have c : ¬ (9 : Int32) < nI (k + 1) := nI_nlt (a := 9) (b := k + 1) (by omega) (by omega)
      have p1 := z_pow_le (j := k + 1) hb hb1 (by omega)
      have p2 : a ^ (k + 1) ≤ b ^ (k + 1) := Nat.pow_le_pow_left hab _
      have m1 : b ^ (k + 1) * u ≤ 18014398509481984 * 100 := Nat.mul_le_mul p1 hu
      have m2 : (b ^ (k + 1) - a ^ (k + 1)) * v ≤ 18014398509481984 * 100 := Nat.mul_le_mul (by omega) hv
      have hq : (b ^ (k + 1) - a ^ (k + 1)) * v < b ^ (k + 1) * u := by
        have : ¬ (b ^ (k + 1) * u ≤ (b ^ (k + 1) - a ^ (k + 1)) * v) := by simpa [z_rep] using hp
        omega
      try dsimp only
      rw [fX4_repeats_L54_s, if_neg c, lN_mul, lN_mul, ← Nat.pow_succ, ← Nat.pow_succ, lN_sub p2, nI_l (by omega), nI_l (by omega), lN_mul, lN_mul, if_pos ((lg_cmp_lt _ _).mpr ((pk_lLT (by omega) (by omega)).mpr hq)), nI_1'])
    (by
      intro k fuel hk hp
      have c : ¬ (9 : Int32) < nI (k + 1) := nI_nlt (a := 9) (b := k + 1) (by omega) (by omega)
      have p1 := z_pow_le (j := k + 1) hb hb1 (by omega)
      have p2 : a ^ (k + 1) ≤ b ^ (k + 1) := Nat.pow_le_pow_left hab _
      have m1 : b ^ (k + 1) * u ≤ 18014398509481984 * 100 := Nat.mul_le_mul p1 hu
      have m2 : (b ^ (k + 1) - a ^ (k + 1)) * v ≤ 18014398509481984 * 100 := Nat.mul_le_mul (by omega) hv
      have hq : ¬ (b ^ (k + 1) - a ^ (k + 1)) * v < b ^ (k + 1) * u := by
        have : b ^ (k + 1) * u ≤ (b ^ (k + 1) - a ^ (k + 1)) * v := by simpa [z_rep] using hp
        omega
      try dsimp only
      rw [fX4_repeats_L54_s, if_neg c, lN_mul, lN_mul, ← Nat.pow_succ, ← Nat.pow_succ, lN_sub p2, nI_l (by omega), nI_l (by omega), lN_mul, lN_mul, if_neg (fun q => hq ((pk_lLT (by omega) (by omega)).mp ((lg_cmp_lt _ _).mp q)))])
    (by
      intro fuel
      try dsimp only
      rw [fX4_repeats_L54_s, if_pos (by decide)])
theorem m_repM {a b u v : Nat} (hab : a ≤ b) (hb : b ≤ 64) (hb1 : 1 ≤ b) (hu : u ≤ 100) (hv : v ≤ 100) (i : Nat → Int32) : fX5_repeats_L43 FU (nI u) (nI v) (1 : Int64) (1 : Int64) (1 : Int32) (lN a) (lN b) i = some (z_el (fun j => (.inl (nI (j + 1), lN a, lN b, i) : (Int32 × Int64 × Int64 × (Nat → Int32)) ⊕ (Int64 × Int64 × Int32))) (.inr (lN (a ^ 9), lN (b ^ 9), nI 10)) (z_fd (z_rep a b u v) 9 0)) :=
  lp_findFU (fun fuel j => fX5_repeats_L43 fuel (nI u) (nI v) (lN (a ^ j)) (lN (b ^ j)) (nI (j + 1)) (lN a) (lN b) i) 9 (by decide) _ _ _
    (by
      intro k fuel hk hp
      have c : ¬ (9 : Int32) < nI (k + 1) := nI_nlt (a := 9) (b := k + 1) (by omega) (by omega)
      have p1 := z_pow_le (j := k + 1) hb hb1 (by omega)
      have p2 : a ^ (k + 1) ≤ b ^ (k + 1) := Nat.pow_le_pow_left hab _
      have m1 : b ^ (k + 1) * u ≤ 18014398509481984 * 100 := Nat.mul_le_mul p1 hu
      have m2 : (b ^ (k + 1) - a ^ (k + 1)) * v ≤ 18014398509481984 * 100 := Nat.mul_le_mul (by omega) hv
      have hq : (b ^ (k + 1) - a ^ (k + 1)) * v < b ^ (k + 1) * u := by
        have : ¬ (b ^ (k + 1) * u ≤ (b ^ (k + 1) - a ^ (k + 1)) * v) := by simpa [z_rep] using hp
        omega
      try dsimp only
      rw [fX5_repeats_L43_s, if_neg c, lN_mul, lN_mul, ← Nat.pow_succ, ← Nat.pow_succ, lN_sub p2, nI_l (by omega), nI_l (by omega), lN_mul, lN_mul, Nat.mul_comm v, Nat.mul_comm u, if_pos ((lg_cmp_lt _ _).mpr ((pk_lLT (by omega) (by omega)).mpr hq)), nI_1'])
    (by
      intro k fuel hk hp
      have c : ¬ (9 : Int32) < nI (k + 1) := nI_nlt (a := 9) (b := k + 1) (by omega) (by omega)
      have p1 := z_pow_le (j := k + 1) hb hb1 (by omega)
      have p2 : a ^ (k + 1) ≤ b ^ (k + 1) := Nat.pow_le_pow_left hab _
      have m1 : b ^ (k + 1) * u ≤ 18014398509481984 * 100 := Nat.mul_le_mul p1 hu
      have m2 : (b ^ (k + 1) - a ^ (k + 1)) * v ≤ 18014398509481984 * 100 := Nat.mul_le_mul (by omega) hv
      have hq : ¬ (b ^ (k + 1) - a ^ (k + 1)) * v < b ^ (k + 1) * u := by
        have : b ^ (k + 1) * u ≤ (b ^ (k + 1) - a ^ (k + 1)) * v := by simpa [z_rep] using hp
        omega
      try dsimp only
      rw [fX5_repeats_L43_s, if_neg c, lN_mul, lN_mul, ← Nat.pow_succ, ← Nat.pow_succ, lN_sub p2, nI_l (by omega), nI_l (by omega), lN_mul, lN_mul, Nat.mul_comm v, Nat.mul_comm u, if_neg (fun q => hq ((pk_lLT (by omega) (by omega)).mp ((lg_cmp_lt _ _).mp q)))])
    (by
      intro fuel
      try dsimp only
      rw [fX5_repeats_L43_s, if_pos (by decide)])
/-- a fraction in lowest terms catches alike -/
theorem z_rep_low {a b u v : Nat} (hb : 1 ≤ b) : z_fd (z_rep (a / Nat.gcd a b) (b / Nat.gcd a b) u v) 9 0 = z_fd (z_rep a b u v) 9 0 := by
  refine z_fd_congr (fun j _ _ => ?_)
  have hg : 0 < Nat.gcd a b := Nat.gcd_pos_of_pos_right a (by omega)
  obtain ⟨a', ha'⟩ := Nat.gcd_dvd_left a b
  obtain ⟨b', hb'⟩ := Nat.gcd_dvd_right a b
  generalize hG : Nat.gcd a b = G at *
  have ea : a / G = a' := by rw [ha']; exact Nat.mul_div_cancel_left _ hg
  have eb : b / G = b' := by rw [hb']; exact Nat.mul_div_cancel_left _ hg
  rw [ea, eb]
  have hp : 0 < G ^ (j + 1) := Nat.pow_pos hg
  have e1 : b ^ (j + 1) * u = G ^ (j + 1) * (b' ^ (j + 1) * u) := by rw [hb', Nat.mul_pow, Nat.mul_assoc]
  have e2 : (b ^ (j + 1) - a ^ (j + 1)) * v = G ^ (j + 1) * ((b' ^ (j + 1) - a' ^ (j + 1)) * v) := by rw [hb', ha', Nat.mul_pow, Nat.mul_pow, ← Nat.mul_sub, Nat.mul_assoc]
  unfold z_rep
  rw [e1, e2]
  exact decide_eq_decide.mpr (Nat.mul_le_mul_left_iff hp).symm
