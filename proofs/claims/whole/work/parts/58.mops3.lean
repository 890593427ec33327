/-! pass, repeats, worst, mended, shows, witness, count -/
noncomputable def z_PP (s n k B : Nat) (g J : Nat → Nat) : Nat := if s < 4 then z_pass g n s else if s = 4 then z_tp B else z_np J k
noncomputable def z_LL (s n k : Nat) : Nat := if s < 4 then z_look n s else if s = 4 then 64 else z_ns k
theorem z_ns_in : ∀ k, k < 7 → 1 ≤ k → 1 ≤ z_ns k ∧ z_ns k ≤ 64 := by decide +kernel
theorem z_PL {s n k B : Nat} {g J : Nat → Nat} (h2 : 2 ≤ n) (hn : n ≤ 8) (h6 : s < 6) (k1 : 1 ≤ k) (k6 : k ≤ 6) : z_PP s n k B g J ≤ z_LL s n k ∧ 1 ≤ z_LL s n k ∧ z_LL s n k ≤ 64 := by
  unfold z_PP z_LL
  by_cases q : s < 4
  · rw [if_pos q, if_pos q]
    exact ⟨z_pass_le h2 hn q, (z_look_in h2 hn q).1, (z_look_in h2 hn q).2⟩
  · rw [if_neg q, if_neg q]
    by_cases q4 : s = 4
    · rw [if_pos q4, if_pos q4]
      refine ⟨?_, by decide, by decide⟩
      have := z_sum_le (g := fun x => z_sum (fun y => z_agn B x y) 8) (n := 8) (m := 8) (fun x _ => by
        have := z_sum_le (g := fun y => z_agn B x y) (n := 8) (m := 1) (fun y _ => by unfold z_agn; split <;> omega)
        omega)
      unfold z_tp
      omega
    · rw [if_neg q4, if_neg q4]
      have h := z_ns_in k (by omega) k1
      refine ⟨z_sum_mono (fun s _ => ?_), h.1, h.2⟩
      by_cases e : z_pc s = k
      · rw [if_pos e, if_pos e]; rcases z_tc_01 J s with w | w <;> omega
      · rw [if_neg e, if_neg e]; exact Nat.le_refl _
theorem m_xpassing {n k B s : Nat} {g J : Nat → Nat} {rd ej : Nat → Int32} (hn : n ≤ 8) (hR : Rg rd g n) (hB : B < 256) (hN : Nt ej J) (hs : Sy J) (h6 : s < 6) (k6 : k ≤ 6) : fX4_passing (nI k) (nI n) rd (nI B) ej (nI s) = some (nI (z_PP s n k B g J)) := by
  unfold fX4_passing z_PP
  by_cases q : s < 4
  · rw [if_pos q, bd_of (row_of q), if_neg one_ne, bd_of (m_passing hn q hR)]
  · rw [if_neg q, bd_of (row_not (by omega) h6), if_pos rfl]
    by_cases q4 : s = 4
    · subst q4
      rw [if_pos rfl, if_pos four_eq, bd_of (m_tpassing hB)]
    · have e5 : s = 5 := by omega
      subst e5
      rw [if_neg q4, if_neg five_ne, bd_of (m_npassing hN hs (by omega))]
theorem m_xlooks {n k s : Nat} (h2 : 2 ≤ n) (hn : n ≤ 8) (h6 : s < 6) (k6 : k ≤ 6) : fX4_looks (nI k) (nI n) (nI s) = some (nI (z_LL s n k)) := by
  unfold fX4_looks z_LL
  by_cases q : s < 4
  · rw [if_pos q, bd_of (row_of q), if_neg one_ne, bd_of (m_looks (by omega) hn q)]
  · rw [if_neg q, bd_of (row_not (by omega) h6), if_pos rfl]
    by_cases q4 : s = 4
    · subst q4
      rw [if_pos rfl, if_pos four_eq]
      rfl
    · have e5 : s = 5 := by omega
      subst e5
      rw [if_neg q4, if_neg five_ne, bd_of (m_sets (by omega))]
theorem m_findPass {n k B s : Nat} {g J : Nat → Nat} {fr fb fj : Nat → Int32} (A0 B0 : Int64) (fi : Nat → Int32) (h2 : 2 ≤ n) (hn : n ≤ 8) (hR : Rg fr g n) (hT : Tb fb B) (hN : Nt fj J) (h6 : s < 6) (k1 : 1 ≤ k) (k6 : k ≤ 6) : ∃ fi', fX5_findPass (nI n) (nI k) A0 B0 fr fb fj fi (nI s) = some (lN (z_PP s n k B g J / Nat.gcd (z_PP s n k B g J) (z_LL s n k)), lN (z_LL s n k / Nat.gcd (z_PP s n k B g J) (z_LL s n k)), fi') := by
  have pl := z_PL (B := B) (g := g) (J := J) h2 hn h6 k1 k6
  have hred := m_reduce (a := z_PP s n k B g J) (b := z_LL s n k) pl.2.1 (by omega) (by omega)
  unfold fX5_findPass
  by_cases q : s < 4
  · have eP : z_PP s n k B g J = z_pass g n s := if_pos q
    have eL : z_LL s n k = z_look n s := if_pos q
    have htk : Rg (z_fl fr fi n) g n := fun i hi => by rw [z_fl_in hi]; exact hR i hi
    rw [if_neg (show ¬ (4 : Int32) ≤ nI s from nI_ge (a := s) (b := 4) q (by decide)), bd_of (m_takeRow hn fr fi), bd_of (m_countRow h2 hn q htk A0 B0), ← eP, ← eL, bd_of hred]
    exact ⟨_, rfl⟩
  · rw [if_pos (show (4 : Int32) ≤ nI s from nI_le (a := 4) (b := s) (by omega) (by omega))]
    by_cases q4 : s = 4
    · subst q4
      have eP : z_PP 4 n k B g J = z_tp B := rfl
      have eL : z_LL 4 n k = 64 := rfl
      rw [if_pos four_eq, bd_of (m_countTable hT A0 B0), ← eP, ← eL, bd_of hred]
      exact ⟨_, rfl⟩
    · have e5 : s = 5 := by omega
      subst e5
      have eP : z_PP 5 n k B g J = z_np J k := rfl
      have eL : z_LL 5 n k = z_ns k := rfl
      rw [if_neg five_ne, bd_of (m_countNet hN (by omega) A0 B0), ← eP, ← eL, bd_of hred]
      exact ⟨_, rfl⟩
theorem op_pass {vk rs : Int32} {rd : Nat → Int32} {bb : Int32} {ej : Nat → Int32} {vn vk' : Int32} {fr fb fj : Nat → Int32} (hI : Inv vk rs rd bb ej vn vk' fr fb fj) (A0 B0 : Int64) (fi : Nat → Int32) (p q : Int32) : ∃ (rc : Int64) (rm : Int64 × Int64 × Int64 × (Nat → Int32)), fX4_pass vk rs rd bb ej p q = some rc ∧ fX5_pass vn vk' A0 B0 fr fb fj fi p q = some rm ∧ rc = rm.1 := by
  obtain ⟨n, k, B, g, J, ⟨h2, hn, rfl, rfl, hR, hR'⟩, ⟨k1, k6, rfl, rfl⟩, ⟨hB, rfl, hT⟩, hN, hN', hs⟩ := hI
  unfold fX4_pass fX5_pass
  rcases subj_cases p with ⟨w1, w2⟩ | ⟨w1, w2, s, h6, rfl⟩
  · exact ⟨(-2 : Int64), ((-2 : Int64), A0, B0, fi), by rw [bd_of w1, if_pos rfl], by rw [bd_of w2, if_pos rfl], rfl⟩
  · rcases bit_cases q with ⟨v1, v2⟩ | ⟨v1, v2, part, hp, rfl⟩
    · exact ⟨(-2 : Int64), ((-2 : Int64), A0, B0, fi), by rw [bd_of w1, if_neg one_ne, bd_of v1, if_pos rfl], by rw [bd_of w2, if_neg one_ne, bd_of v2, if_pos rfl], rfl⟩
    · have pl := z_PL (B := B) (g := g) (J := J) h2 hn h6 k1 k6
      obtain ⟨fi', hf⟩ := m_findPass A0 B0 fi h2 hn hR' hT hN' h6 k1 k6
      have hl := m_lowestTerm (a := z_PP s n k B g J) (b := z_LL s n k) (part := part) pl.2.1 (by omega) (by omega) hp
      rw [bd_of w1, if_neg one_ne, bd_of v1, if_neg one_ne, bd_of (m_xpassing hn hR hB hN hs h6 k6), bd_of (m_xlooks h2 hn h6 k6), bd_of hl, bd_of w2, if_neg one_ne, bd_of v2, if_neg one_ne, bd_of hf]
      have lt : ∀ x, x ≤ 64 → x / Nat.gcd (z_PP s n k B g J) (z_LL s n k) < 2 ^ 31 := fun x hx => by have := Nat.div_le_self x (Nat.gcd (z_PP s n k B g J) (z_LL s n k)); omega
      rcases (show part = 0 ∨ part = 1 by omega) with rfl | rfl
      · rw [if_pos (show nI 0 = (0 : Int32) from rfl), if_pos rfl, nI_l (lt _ (by omega))]
        exact ⟨_, _, rfl, rfl, rfl⟩
      · rw [if_neg (show ¬ nI 1 = (0 : Int32) by decide), if_neg (by decide), nI_l (lt _ (by omega))]
        exact ⟨_, _, rfl, rfl, rfl⟩
theorem op_repeats {vk rs : Int32} {rd : Nat → Int32} {bb : Int32} {ej : Nat → Int32} {vn vk' : Int32} {fr fb fj : Nat → Int32} (hI : Inv vk rs rd bb ej vn vk' fr fb fj) (A0 B0 : Int64) (fi : Nat → Int32) (p q w : Int32) : ∃ (rc : Int32) (rm : Int32 × Int64 × Int64 × (Nat → Int32)), fX4_repeats vk rs rd bb ej p q w = some rc ∧ fX5_repeats vn vk' A0 B0 fr fb fj fi p q w = some rm ∧ rc = rm.1 := by
  obtain ⟨n, k, B, g, J, ⟨h2, hn, rfl, rfl, hR, hR'⟩, ⟨k1, k6, rfl, rfl⟩, ⟨hB, rfl, hT⟩, hN, hN', hs⟩ := hI
  unfold fX4_repeats fX5_repeats
  rcases subj_cases p with ⟨w1, w2⟩ | ⟨w1, w2, s, h6, rfl⟩
  · exact ⟨(-2 : Int32), ((-2 : Int32), A0, B0, fi), by rw [bd_of w1, if_pos rfl], by rw [bd_of w2, if_pos rfl], rfl⟩
  · rw [bd_of w1, if_neg one_ne, bd_of w2, if_neg one_ne]
    rcases in_cases w 1 100 with ⟨v1, v2⟩ | ⟨v1, v2, h3, h4⟩
    · exact ⟨(-2 : Int32), ((-2 : Int32), A0, B0, fi), by rw [bd_of v1, if_pos rfl], by rw [bd_of v2, if_pos rfl], rfl⟩
    · obtain ⟨v, _, v8, rfl⟩ := in_rng 1 100 h3 h4 (by decide) (by decide)
      rw [bd_of v1, if_neg one_ne, bd_of v2, if_neg one_ne]
      rcases in_cases q 1 (nI v) with ⟨u1, u2⟩ | ⟨u1, u2, h5, h7⟩
      · exact ⟨(-2 : Int32), ((-2 : Int32), A0, B0, fi), by rw [bd_of u1, if_pos rfl], by rw [bd_of u2, if_pos rfl], rfl⟩
      · obtain ⟨u, _, u8, rfl⟩ := in_rng 1 v h5 h7 (by decide) (by omega)
        have pl := z_PL (B := B) (g := g) (J := J) h2 hn h6 k1 k6
        obtain ⟨fi', hf⟩ := m_findPass A0 B0 fi h2 hn hR' hT hN' h6 k1 k6
        have hgp : 0 < Nat.gcd (z_PP s n k B g J) (z_LL s n k) := Nat.gcd_pos_of_pos_right _ (by omega)
        have hx := m_repX (a := z_PP s n k B g J) (b := z_LL s n k) (u := u) (v := v) pl.1 pl.2.2 pl.2.1 (by omega) v8
        have ld := Nat.div_le_self (z_LL s n k) (Nat.gcd (z_PP s n k B g J) (z_LL s n k))
        have ld1 : 1 ≤ z_LL s n k / Nat.gcd (z_PP s n k B g J) (z_LL s n k) := (Nat.one_le_div_iff hgp).mpr (Nat.le_of_dvd (by omega) (Nat.gcd_dvd_right _ _))
        have hm := m_repM (a := z_PP s n k B g J / Nat.gcd (z_PP s n k B g J) (z_LL s n k)) (b := z_LL s n k / Nat.gcd (z_PP s n k B g J) (z_LL s n k)) (u := u) (v := v) (Nat.div_le_div_right pl.1) (by omega) ld1 (by omega) v8 fi'
        rw [z_rep_low pl.2.1] at hm
        rw [bd_of u1, if_neg one_ne, bd_of u2, if_neg one_ne, bd_of (m_xpassing hn hR hB hN hs h6 k6), bd_of (m_xlooks h2 hn h6 k6), bd_of hf, nI_l (by omega), nI_l (by omega)]
        cases hz : z_fd (z_rep (z_PP s n k B g J) (z_LL s n k) u v) 9 0 with
        | none =>
          rw [hz] at hx hm
          exact ⟨_, _, bs_r hx, bs_r hm, rfl⟩
        | some j =>
          rw [hz] at hx hm
          exact ⟨_, _, bs_l hx, bs_l hm, rfl⟩
theorem op_mended {vk rs : Int32} {rd : Nat → Int32} {bb : Int32} {ej : Nat → Int32} {vn vk' : Int32} {fr fb fj : Nat → Int32} (hI : Inv vk rs rd bb ej vn vk' fr fb fj) (p q : Int32) : ∃ rc rm, fX4_mended bb p q = some rc ∧ fX5_mended fb p q = some rm ∧ rc = rm := by
  obtain ⟨n, k, B, g, J, hn, hk, ⟨hB, rfl, hT⟩, hJ⟩ := hI
  unfold fX4_mended fX5_mended
  rcases eight_cases p with ⟨w1, w2⟩ | ⟨w1, w2, x, hx, rfl⟩
  · exact ⟨_, _, by rw [bd_of w1, if_pos rfl], by rw [bd_of w2, if_pos rfl], rfl⟩
  · rcases bit_cases q with ⟨v1, v2⟩ | ⟨v1, v2, v, hv, rfl⟩
    · exact ⟨_, _, by rw [bd_of w1, if_neg one_ne, bd_of v1, if_pos rfl], by rw [bd_of w2, if_neg one_ne, bd_of v2, if_pos rfl], rfl⟩
    · exact ⟨nI (z_tl B x v), nI (z_tl B x v), by rw [bd_of w1, if_neg one_ne, bd_of v1, if_neg one_ne, bd_of (m_tellers hB hx hv)], by rw [bd_of w2, if_neg one_ne, bd_of v2, if_neg one_ne, bd_of (m_mended hT hx hv)], rfl⟩
-- the tester's looks
theorem look_val {n k : Nat} (h2 : 2 ≤ n) (hn : n ≤ 8) (k6 : k ≤ 6) (p q w : Int32) : fX4_isLook (nI k) (nI n) p q w = fX5_maySubject (nI n) (nI k) p q w ∧ (fX4_isLook (nI k) (nI n) p q w = some 0 ∨ (fX4_isLook (nI k) (nI n) p q w = some 1 ∧ ((p = 0 ∧ ∃ i j, i < n ∧ j < n ∧ q = nI i ∧ w = nI j) ∨ (p = 4 ∧ ∃ x y, x < 8 ∧ y < 8 ∧ q = nI x ∧ w = nI y) ∨ (p = 5 ∧ ∃ S, S < 64 ∧ q = nI S ∧ w = 0)))) := by
  unfold fX4_isLook fX5_maySubject
  by_cases p0 : p = 0
  · rw [if_pos p0, if_pos p0]
    rcases place_cases (by omega) hn q with ⟨v1, v2⟩ | ⟨v1, v2, i, hi, rfl⟩
    · rw [bd_of v1, bd_of v2, if_pos rfl]
      exact ⟨rfl, Or.inl rfl⟩
    · rw [bd_of v1, bd_of v2, if_neg one_ne, if_neg one_ne]
      rcases place_cases (by omega) hn w with ⟨u1, u2⟩ | ⟨u1, u2, j, hj, rfl⟩
      · rw [bd_of u1, bd_of u2, if_pos rfl]
        exact ⟨rfl, Or.inl rfl⟩
      · rw [bd_of u1, bd_of u2, if_neg one_ne]
        by_cases e : nI j ≤ nI i
        · rw [if_pos e]; exact ⟨rfl, Or.inl rfl⟩
        · rw [if_neg e]; exact ⟨rfl, Or.inr ⟨rfl, Or.inl ⟨p0, i, j, hi, hj, rfl, rfl⟩⟩⟩
  · rw [if_neg p0, if_neg p0]
    by_cases p4 : p = 4
    · rw [if_pos p4, if_pos p4]
      rcases eight_cases q with ⟨v1, v2⟩ | ⟨v1, v2, x, hx, rfl⟩
      · rw [bd_of v1, bd_of v2, if_pos rfl]
        exact ⟨rfl, Or.inl rfl⟩
      · rw [bd_of v1, bd_of v2, if_neg one_ne, if_neg one_ne]
        rcases eight_cases w with ⟨u1, u2⟩ | ⟨u1, u2, y, hy, rfl⟩
        · rw [bd_of u1, bd_of u2, if_pos rfl]
          exact ⟨rfl, Or.inl rfl⟩
        · rw [bd_of u1, bd_of u2, if_neg one_ne]
          exact ⟨rfl, Or.inr ⟨rfl, Or.inr (Or.inl ⟨p4, x, y, hx, hy, rfl, rfl⟩)⟩⟩
    · rw [if_neg p4, if_neg p4]
      by_cases p5 : p = 5
      · rw [if_pos p5, if_pos p5]
        rcases in_cases q 0 63 with ⟨v1, v2⟩ | ⟨v1, v2, h3, h4⟩
        · rw [bd_of v1, bd_of v2, if_pos rfl]
          exact ⟨rfl, Or.inl rfl⟩
        · obtain ⟨S, _, S2, rfl⟩ := in_rng 0 63 h3 h4 (by decide) (by decide)
          rw [bd_of v1, bd_of v2, if_neg one_ne, if_neg one_ne, bd_of (m_bitCount S (by omega)), bd_of (m_ones (by omega))]
          by_cases e : nI (z_pc S) = nI k
          · rw [if_pos e]
            by_cases ew : w = 0
            · rw [if_pos ew]; exact ⟨rfl, Or.inr ⟨rfl, Or.inr (Or.inr ⟨p5, S, by omega, rfl, ew⟩)⟩⟩
            · rw [if_neg ew]; exact ⟨rfl, Or.inl rfl⟩
          · rw [if_neg e]; exact ⟨rfl, Or.inl rfl⟩
      · rw [if_neg p5, if_neg p5]
        exact ⟨rfl, Or.inl rfl⟩
theorem fails_val {n k B : Nat} {g J : Nat → Nat} {rd ej fr fb fj : Nat → Int32} (h2 : 2 ≤ n) (hn : n ≤ 8) (k6 : k ≤ 6) (hR : Rg rd g n) (hR' : Rg fr g n) (hB : B < 256) (hT : Tb fb B) (hN : Nt ej J) (hN' : Nt fj J) (hs : Sy J) {p q w : Int32} (hl : fX4_isLook (nI k) (nI n) p q w = some 1) : fX4_fails rd (nI B) ej p q w = fX5_showsOf fr fb fj p q w ∧ (fX4_fails rd (nI B) ej p q w = some 0 ∨ fX4_fails rd (nI B) ej p q w = some 1) := by
  rcases (look_val h2 hn k6 p q w).2 with h | ⟨-, h⟩
  · rw [h] at hl
    exact absurd (Option.some.inj hl) (by decide)
  · unfold fX4_fails fX5_showsOf
    rcases h with ⟨rfl, i, j, hi, hj, rfl, rfl⟩ | ⟨rfl, x, y, hx, hy, rfl, rfl⟩ | ⟨rfl, S, hS, rfl, rfl⟩
    · rw [if_pos rfl, if_pos rfl, gin_nI (by omega) (by decide), gin_nI (by omega) (by decide), gin_nI (by omega) (by decide), gin_nI (by omega) (by decide), nI_clamp (by omega), nI_clamp (by omega), (hR i hi).2, (hR j hj).2, (hR' i hi).2, (hR' j hj).2]
      refine ⟨rfl, ?_⟩
      by_cases e : nI (g i) ≤ nI (g j)
      · rw [if_pos e]; exact Or.inl rfl
      · rw [if_neg e]; exact Or.inr rfl
    · obtain ⟨x1, x2⟩ := z_xor8 x hx y hy
      have a1 : B / 2 ^ x % 2 < 2 := Nat.mod_lt _ (by decide)
      have a2 : B / 2 ^ y % 2 < 2 := Nat.mod_lt _ (by decide)
      have a3 : B / 2 ^ (x ^^^ y) % 2 < 2 := Nat.mod_lt _ (by decide)
      rw [if_neg (show ¬ (4 : Int32) = 0 by decide), if_neg (show ¬ (4 : Int32) = 0 by decide), if_pos rfl, if_pos rfl, x1, gin_nI (by omega) (by decide), gin_nI (by omega) (by decide), gin_nI (by omega) (by decide), nI_clamp (by omega), nI_clamp (by omega), nI_clamp (by omega), hT x hx, hT y hy, hT _ x2, bd_of (m_passesTable a1 a2 a3)]
      by_cases e : z_ag B x y
      · rw [bd_of ((m_agrees hB hx hy).1 e), if_neg one_ne, show (if (B / 2 ^ x % 2 + B / 2 ^ y % 2 + B / 2 ^ (x ^^^ y) % 2) % 2 = 0 then (1 : Int32) else 0) = 1 from if_pos e, if_neg one_ne]
        exact ⟨rfl, Or.inl rfl⟩
      · rw [bd_of ((m_agrees hB hx hy).2 e), if_pos rfl, show (if (B / 2 ^ x % 2 + B / 2 ^ y % 2 + B / 2 ^ (x ^^^ y) % 2) % 2 = 0 then (1 : Int32) else 0) = 0 from if_neg e, if_pos rfl]
        exact ⟨rfl, Or.inr rfl⟩
    · rw [if_neg (show ¬ (5 : Int32) = 0 by decide), if_neg (show ¬ (5 : Int32) = 0 by decide), if_neg (show ¬ (5 : Int32) = 4 by decide), if_neg (show ¬ (5 : Int32) = 4 by decide), bd_of (m_twoColoured hN hs hS), bd_of (m_passesNet hN' hS)]
      refine ⟨rfl, ?_⟩
      by_cases e : nI (z_tc J S) = 0
      · rw [if_pos e]; exact Or.inr rfl
      · rw [if_neg e]; exact Or.inl rfl
theorem op_shows {vk rs : Int32} {rd : Nat → Int32} {bb : Int32} {ej : Nat → Int32} {vn vk' : Int32} {fr fb fj : Nat → Int32} (hI : Inv vk rs rd bb ej vn vk' fr fb fj) (p q w : Int32) : ∃ rc rm, fX4_shows vk rs rd bb ej p q w = some rc ∧ fX5_shows vn vk' fr fb fj p q w = some rm ∧ rc = rm := by
  obtain ⟨n, k, B, g, J, ⟨h2, hn, rfl, rfl, hR, hR'⟩, ⟨k1, k6, rfl, rfl⟩, ⟨hB, rfl, hT⟩, hN, hN', hs⟩ := hI
  unfold fX4_shows fX5_shows
  obtain ⟨e1, e2⟩ := look_val h2 hn k6 p q w
  rw [← e1]
  rcases e2 with e2 | ⟨e2, -⟩
  · exact ⟨_, _, by rw [bd_of e2, if_pos rfl], by rw [bd_of e2, if_pos rfl], rfl⟩
  · obtain ⟨e3, e4⟩ := fails_val h2 hn k6 hR hR' hB hT hN hN' hs e2
    rw [bd_of e2, bd_of e2, if_neg one_ne, if_neg one_ne, ← e3]
    rcases e4 with e4 | e4
    · rw [bd_of e4]; exact ⟨_, _, rfl, rfl, rfl⟩
    · rw [bd_of e4]; exact ⟨_, _, rfl, rfl, rfl⟩
/-- whether a look shows it -/
noncomputable def z_Q (k n B : Nat) (rd ej : Nat → Int32) (p : Int32) (a b : Nat) : Bool := decide (fX4_isLook (nI k) (nI n) p (nI a) (nI b) = some 1 ∧ fX4_fails rd (nI B) ej p (nI a) (nI b) = some 1)
theorem op_witness {vk rs : Int32} {rd : Nat → Int32} {bb : Int32} {ej : Nat → Int32} {vn vk' : Int32} {fr fb fj : Nat → Int32} (hI : Inv vk rs rd bb ej vn vk' fr fb fj) (p : Int32) : ∃ rc rm, fX4_witness vk rs rd bb ej p = some rc ∧ fX5_witness vn vk' fr fb fj p = some rm ∧ rc = rm := by
  obtain ⟨n, k, B, g, J, ⟨h2, hn, rfl, rfl, hR, hR'⟩, ⟨k1, k6, rfl, rfl⟩, ⟨hB, rfl, hT⟩, hN, hN', hs⟩ := hI
  have lv := fun p q w => look_val h2 hn k6 p q w
  have fv := fun {p q w : Int32} (h : fX4_isLook (nI k) (nI n) p q w = some 1) => fails_val h2 hn k6 hR hR' hB hT hN hN' hs h
  have no : ∀ (p : Int32) (a b : Nat), z_Q k n B rd ej p a b = false → fX4_isLook (nI k) (nI n) p (nI a) (nI b) = some 0 ∨ (fX4_isLook (nI k) (nI n) p (nI a) (nI b) = some 1 ∧ fX4_fails rd (nI B) ej p (nI a) (nI b) = some 0) := by
    intro p a b h
    have h' : ¬ (fX4_isLook (nI k) (nI n) p (nI a) (nI b) = some 1 ∧ fX4_fails rd (nI B) ej p (nI a) (nI b) = some 1) := of_decide_eq_false h
    rcases (lv p (nI a) (nI b)).2 with e | ⟨e, -⟩
    · exact Or.inl e
    · rcases (fv e).2 with f | f
      · exact Or.inr ⟨e, f⟩
      · exact absurd ⟨e, f⟩ h'
  have yes : ∀ (p : Int32) (a b : Nat), z_Q k n B rd ej p a b = true → fX4_isLook (nI k) (nI n) p (nI a) (nI b) = some 1 ∧ fX4_fails rd (nI B) ej p (nI a) (nI b) = some 1 := fun p a b h => of_decide_eq_true h
  -- the reference's inner loop
  have mi : ∀ (p : Int32) (a : Nat), fX5_witness_L27 FU p (nI a) (0 : Int32) (nI n) (nI k) fr fb fj = some (z_el (fun b => (.inl (if p = 5 then nI a else (100 : Int32) * nI a + nI b) : Int32 ⊕ Int32)) (.inr (nI 8)) (z_fd (fun b => z_Q k n B rd ej p a b) 8 0)) := by
    intro p a
    exact lp_findFU (fun fuel b => fX5_witness_L27 fuel p (nI a) (nI b) (nI n) (nI k) fr fb fj) 8 (by decide) _ _ _
      (by
        intro b fuel hb hq
        have c : ¬ (8 : Int32) ≤ nI b := nI_ge hb (by decide)
        try dsimp only
        rw [fX5_witness_L27_s, if_neg c, ← (lv p (nI a) (nI b)).1, nI_1']
        rcases no p a b hq with e | ⟨e, f⟩
        · rw [bd_of e, if_pos rfl]
        · rw [bd_of e, if_neg one_ne, ← (fv e).1, bd_of f, if_pos rfl])
      (by
        intro b fuel hb hq
        have c : ¬ (8 : Int32) ≤ nI b := nI_ge hb (by decide)
        obtain ⟨e, f⟩ := yes p a b hq
        try dsimp only
        rw [fX5_witness_L27_s, if_neg c, ← (lv p (nI a) (nI b)).1, bd_of e, if_neg one_ne, ← (fv e).1, bd_of f, if_neg one_ne]
        by_cases p5 : p = 5
        · rw [if_pos p5, if_pos p5]
        · rw [if_neg p5, if_neg p5])
      (by
        intro fuel
        try dsimp only
        rw [fX5_witness_L27_s, if_pos (by decide)])
  have mo : ∀ (p : Int32) (v : Nat → Int32) (qq : Nat → Bool), (∀ a, a < 64 → qq a = false → z_fd (fun b => z_Q k n B rd ej p a b) 8 0 = none) → (∀ a, a < 64 → qq a = true → ∃ b, z_fd (fun b => z_Q k n B rd ej p a b) 8 0 = some b ∧ v a = (if p = 5 then nI a else (100 : Int32) * nI a + nI b)) → fX5_witness_L19 FU p (0 : Int32) (nI n) (nI k) fr fb fj = some (z_el (fun a => (.inl (v a) : Int32 ⊕ Int32)) (.inr (nI 64)) (z_fd qq 64 0)) := by
    intro p v qq h0 h1
    exact lp_findFU (fun fuel a => fX5_witness_L19 fuel p (nI a) (nI n) (nI k) fr fb fj) 64 (by decide) _ _ _
      (by
        intro a fuel ha hq
        have c : ¬ (64 : Int32) ≤ nI a := nI_ge ha (by decide)
        have hm := mi p a
        rw [h0 a ha hq] at hm
        try dsimp only
        rw [fX5_witness_L19_s, if_neg c, bt_r hm, nI_1'])
      (by
        intro a fuel ha hq
        have c : ¬ (64 : Int32) ≤ nI a := nI_ge ha (by decide)
        have hm := mi p a
        obtain ⟨b, e1, e2⟩ := h1 a ha hq
        rw [e1] at hm
        try dsimp only
        rw [fX5_witness_L19_s, if_neg c, bt_l hm, e2])
      (by
        intro fuel
        try dsimp only
        rw [fX5_witness_L19_s, if_pos (by decide)])
  -- places a and b below 8: both loops
  have pair : ∀ p : Int32, ¬ p = 5 → (∀ a b, 8 ≤ a → a < 64 → fX4_isLook (nI k) (nI n) p (nI a) (nI b) = some 0) → ∃ r, fX4_firstFailingPair (nI k) (nI n) rd (nI B) ej p = some r ∧ bs (fX5_witness_L19 FU p (0 : Int32) (nI n) (nI k) fr fb fj) (fun _ => some (-1 : Int32)) = some r := by
    intro p p5 hbig
    have xi : ∀ a : Nat, fX4_firstFailingPair_L10 FU p (nI a) (0 : Int32) (nI k) (nI n) rd (nI B) ej = some (z_el (fun b => (.inl ((100 : Int32) * nI a + nI b) : Int32 ⊕ Int32)) (.inr (nI 8)) (z_fd (fun b => z_Q k n B rd ej p a b) 8 0)) := by
      intro a
      exact lp_findFU (fun fuel b => fX4_firstFailingPair_L10 fuel p (nI a) (nI b) (nI k) (nI n) rd (nI B) ej) 8 (by decide) _ _ _
        (by
          intro b fuel hb hq
          have c : ¬ (8 : Int32) ≤ nI b := nI_ge hb (by decide)
          try dsimp only
          rw [fX4_firstFailingPair_L10_s, if_neg c, nI_1']
          rcases no p a b hq with e | ⟨e, f⟩
          · rw [bd_of e, if_pos rfl]
          · rw [bd_of e, if_neg one_ne, bd_of f, if_pos rfl])
        (by
          intro b fuel hb hq
          have c : ¬ (8 : Int32) ≤ nI b := nI_ge hb (by decide)
          obtain ⟨e, f⟩ := yes p a b hq
          try dsimp only
          rw [fX4_firstFailingPair_L10_s, if_neg c, bd_of e, if_neg one_ne, bd_of f, if_neg one_ne])
        (by
          intro fuel
          try dsimp only
          rw [fX4_firstFailingPair_L10_s, if_pos (by decide)])
    have dec : ∀ a, ∃ q : Bool, (q = false → z_fd (fun b => z_Q k n B rd ej p a b) 8 0 = none) ∧ (q = true → ∃ b, z_fd (fun b => z_Q k n B rd ej p a b) 8 0 = some b) := by
      intro a
      cases hz : z_fd (fun b => z_Q k n B rd ej p a b) 8 0 with
      | none => exact ⟨false, fun _ => rfl, fun h => by cases h⟩
      | some b => exact ⟨true, fun h => (by cases h), fun _ => ⟨b, rfl⟩⟩
    obtain ⟨qq, hq⟩ : ∃ qq : Nat → Bool, ∀ a, (qq a = false → z_fd (fun b => z_Q k n B rd ej p a b) 8 0 = none) ∧ (qq a = true → ∃ b, z_fd (fun b => z_Q k n B rd ej p a b) 8 0 = some b) := ⟨fun a => (dec a).choose, fun a => (dec a).choose_spec⟩
    obtain ⟨v, hv⟩ : ∃ v : Nat → Int32, ∀ a b, z_fd (fun b => z_Q k n B rd ej p a b) 8 0 = some b → v a = (100 : Int32) * nI a + nI b := by
      refine ⟨fun a => match z_fd (fun b => z_Q k n B rd ej p a b) 8 0 with
        | some b => (100 : Int32) * nI a + nI b
        | none => 0, fun a b h => ?_⟩
      show (match z_fd (fun b => z_Q k n B rd ej p a b) 8 0 with
        | some b => (100 : Int32) * nI a + nI b
        | none => 0) = _
      rw [h]
    have xo : fX4_firstFailingPair_L2 FU p (0 : Int32) (nI k) (nI n) rd (nI B) ej = some (z_el (fun a => (.inl (v a) : Int32 ⊕ Int32)) (.inr (nI 8)) (z_fd qq 8 0)) :=
      lp_findFU (fun fuel a => fX4_firstFailingPair_L2 fuel p (nI a) (nI k) (nI n) rd (nI B) ej) 8 (by decide) _ _ _
        (by
          intro a fuel ha hq0
          have c : ¬ (8 : Int32) ≤ nI a := nI_ge ha (by decide)
          have hm := xi a
          rw [(hq a).1 hq0] at hm
          try dsimp only
          rw [fX4_firstFailingPair_L2_s, if_neg c, bt_r hm, nI_1'])
        (by
          intro a fuel ha hq0
          have c : ¬ (8 : Int32) ≤ nI a := nI_ge ha (by decide)
          have hm := xi a
          obtain ⟨b, e1⟩ := (hq a).2 hq0
          rw [e1] at hm
          try dsimp only
          rw [fX4_firstFailingPair_L2_s, if_neg c, bt_l hm, hv a b e1])
        (by
          intro fuel
          try dsimp only
          rw [fX4_firstFailingPair_L2_s, if_pos (by decide)])
    have mo2 := mo p v qq (fun a _ h => (hq a).1 h) (fun a _ h => by
      obtain ⟨b, e1⟩ := (hq a).2 h
      exact ⟨b, e1, by rw [if_neg p5]; exact hv a b e1⟩)
    have hno : ∀ a, 8 ≤ a → a < 64 → qq a = false := by
      intro a h8 h64
      cases hqa : qq a with
      | false => rfl
      | true =>
        obtain ⟨b, e1⟩ := (hq a).2 hqa
        have h3 : z_Q k n B rd ej p a b = true := (z_fd_some e1).2.2.1
        have h4 := (yes p a b h3).1
        rw [hbig a b h8 h64] at h4
        exact absurd (Option.some.inj h4) (by decide)
    have same : z_fd qq 64 0 = z_fd qq 8 0 := by
      cases h8 : z_fd qq 8 0 with
      | none =>
        cases h64 : z_fd qq 64 0 with
        | none => rfl
        | some a =>
          obtain ⟨_, a2, a3, _⟩ := z_fd_some h64
          exfalso
          by_cases e : a < 8
          · rw [z_fd_none h8 a (by omega) (by omega)] at a3; cases a3
          · rw [hno a (by omega) (by omega)] at a3; cases a3
      | some b =>
        obtain ⟨_, b2, b3, b4⟩ := z_fd_some h8
        cases h64 : z_fd qq 64 0 with
        | none => rw [z_fd_none h64 b (by omega) (by omega)] at b3; cases b3
        | some a =>
          obtain ⟨_, a2, a3, a4⟩ := z_fd_some h64
          rcases Nat.lt_trichotomy a b with q | q | q
          · rw [b4 a (by omega) q] at a3; cases a3
          · rw [q]
          · rw [a4 b (by omega) q] at b3; cases b3
    rw [same] at mo2
    unfold fX4_firstFailingPair
    cases hz : z_fd qq 8 0 with
    | none => rw [hz] at xo mo2; exact ⟨_, bs_r xo, bs_r mo2⟩
    | some a => rw [hz] at xo mo2; exact ⟨_, bs_l xo, bs_l mo2⟩
  unfold fX4_witness fX5_witness
  by_cases p5 : p = 5
  · subst p5
    have zero : ∀ a, z_fd (fun b => z_Q k n B rd ej 5 a b) 8 0 = if z_Q k n B rd ej 5 a 0 = true then some 0 else none := by
      intro a
      by_cases e : z_Q k n B rd ej 5 a 0 = true
      · rw [if_pos e]
        show (if z_Q k n B rd ej 5 a 0 = true then some 0 else _) = some 0
        rw [if_pos e]
      · rw [if_neg e]
        cases hz : z_fd (fun b => z_Q k n B rd ej 5 a b) 8 0 with
        | none => rfl
        | some b =>
          exfalso
          obtain ⟨_, b2, b3, _⟩ := z_fd_some hz
          have b5 := (yes 5 a b b3).1
          rcases (lv 5 (nI a) (nI b)).2 with h | ⟨-, h⟩
          · rw [h] at b5; exact absurd (Option.some.inj b5) (by decide)
          · rcases h with ⟨h, _⟩ | ⟨h, _⟩ | ⟨_, S, _, _, h⟩
            · exact absurd h (by decide)
            · exact absurd h (by decide)
            · have : b = 0 := (nI_eq (b := 0) (by omega) (by decide)).mp h
              subst this
              exact e b3
    have xo : fX4_firstFailingSet_L2 FU (0 : Int32) (nI k) (nI n) rd (nI B) ej = some (z_el (fun a => (.inl (nI a) : Int32 ⊕ Int32)) (.inr (nI 64)) (z_fd (fun a => z_Q k n B rd ej 5 a 0) 64 0)) :=
      lp_findFU (fun fuel a => fX4_firstFailingSet_L2 fuel (nI a) (nI k) (nI n) rd (nI B) ej) 64 (by decide) _ _ _
        (by
          intro a fuel ha hq
          have c : ¬ (63 : Int32) < nI a := nI_nlt (a := 63) (b := a) (by omega) (by omega)
          try dsimp only
          rw [fX4_firstFailingSet_L2_s, if_neg c, show (0 : Int32) = nI 0 from rfl, nI_1']
          rcases no 5 a 0 hq with e | ⟨e, f⟩
          · rw [bd_of e, if_pos (by rfl)]
          · rw [bd_of e, if_neg (show ¬ (1 : Int32) = nI 0 by decide), bd_of f, if_pos (by rfl)])
        (by
          intro a fuel ha hq
          have c : ¬ (63 : Int32) < nI a := nI_nlt (a := 63) (b := a) (by omega) (by omega)
          obtain ⟨e, f⟩ := yes 5 a 0 hq
          try dsimp only
          rw [fX4_firstFailingSet_L2_s, if_neg c, show (0 : Int32) = nI 0 from rfl, bd_of e, if_neg (show ¬ (1 : Int32) = nI 0 by decide), bd_of f, if_neg (show ¬ (1 : Int32) = nI 0 by decide)])
        (by
          intro fuel
          try dsimp only
          rw [fX4_firstFailingSet_L2_s, if_pos (by decide)])
    have mo2 := mo 5 (fun a => nI a) (fun a => z_Q k n B rd ej 5 a 0) (fun a _ h => by rw [zero a, if_neg (by rw [h]; decide)]) (fun a _ h => ⟨0, by rw [zero a, if_pos h], by rw [if_pos rfl]⟩)
    rw [if_pos rfl, if_neg (show ¬ (5 : Int32) = 0 by decide), if_neg (show ¬ (5 : Int32) = 4 by decide), if_pos rfl]
    unfold fX4_firstFailingSet
    cases hz : z_fd (fun a => z_Q k n B rd ej 5 a 0) 64 0 with
    | none => rw [hz] at xo mo2; exact ⟨_, _, by rw [bs_r xo, bd_s], bs_r mo2, rfl⟩
    | some a => rw [hz] at xo mo2; exact ⟨_, _, by rw [bs_l xo, bd_s], bs_l mo2, rfl⟩
  · rw [if_neg p5]
    by_cases p0 : p = 0
    · obtain ⟨r, e1, e2⟩ := pair p p5 (fun a b h8 h64 => by
        rcases (lv p (nI a) (nI b)).2 with h | ⟨-, h⟩
        · exact h
        · exfalso
          rcases h with ⟨_, i, j, hi, _, h, _⟩ | ⟨h, _⟩ | ⟨h, _⟩
          · have := (nI_eq (by omega) (by omega)).mp h; omega
          · rw [p0] at h; exact absurd h (by decide)
          · exact p5 h)
      rw [if_pos p0, if_pos p0]
      exact ⟨r, r, by rw [bd_of e1], e2, rfl⟩
    · rw [if_neg p0, if_neg p0]
      by_cases p4 : p = 4
      · obtain ⟨r, e1, e2⟩ := pair p p5 (fun a b h8 h64 => by
          rcases (lv p (nI a) (nI b)).2 with h | ⟨-, h⟩
          · exact h
          · exfalso
            rcases h with ⟨h, _⟩ | ⟨_, x, y, hx, _, h, _⟩ | ⟨h, _⟩
            · exact p0 h
            · have := (nI_eq (by omega) (by omega)).mp h; omega
            · exact p5 h)
        rw [if_pos p4, if_pos p4]
        exact ⟨r, r, by rw [bd_of e1], e2, rfl⟩
      · rw [if_neg p4, if_neg p4, if_neg p5]
        exact ⟨_, _, rfl, rfl, rfl⟩
theorem op_count {vk rs : Int32} {rd : Nat → Int32} {bb : Int32} {ej : Nat → Int32} {vn vk' : Int32} {fr fb fj : Nat → Int32} (hI : Inv vk rs rd bb ej vn vk' fr fb fj) (p : Int32) : ∃ rc rm, fX4_count vk rs rd bb ej p = some rc ∧ fX5_count vn vk' fr fb fj p = some rm ∧ rc = rm := by
  obtain ⟨n, k, B, g, J, ⟨h2, hn, rfl, rfl, hR, hR'⟩, ⟨k1, k6, rfl, rfl⟩, ⟨hB, rfl, hT⟩, hN, hN', hs⟩ := hI
  unfold fX4_count fX5_count
  by_cases p0 : p = 0
  · rw [if_pos p0, if_pos p0]; exact ⟨_, _, rfl, rfl, rfl⟩
  · rw [if_neg p0, if_neg p0]
    by_cases p1 : p = 1
    · rw [if_pos p1, if_pos p1]; exact ⟨_, _, rfl, rfl, rfl⟩
    · rw [if_neg p1, if_neg p1]
      by_cases p2 : p = 2
      · obtain ⟨r, e1, e2⟩ := m_count2 hN' hs
        have hl : fX1_lines ej = some (nI (z_far J 63 0)) := by
          unfold fX1_lines
          rw [show (63 : Int32) = nI 63 from rfl, show (0 : Int32) = nI 0 from rfl, bd_of (m_likeLines hN hs (by decide) (by decide))]
        rw [if_pos p2, if_pos p2, bd_of hl, bd_of e1, e2]
        exact ⟨_, _, rfl, rfl, rfl⟩
      · rw [if_neg p2, if_neg p2]
        by_cases p3 : p = 3
        · rw [if_pos p3, if_pos p3, bd_of (m_bitCount B hB), bd_of (m_count3 hT)]
          exact ⟨_, _, rfl, rfl, rfl⟩
        · rw [if_neg p3, if_neg p3]
          by_cases p4 : p = 4
          · have hm : fX5_count_L103 FU (nI (z_sum g 0)) (nI 0) (nI n) fr = some (nI (z_sum g n), nI n) := lp_FU (fun fuel k => fX5_count_L103 fuel (nI (z_sum g k)) (nI k) (nI n) fr) n _ (by omega) 0 (Nat.zero_le _)
              (by
                intro k fuel hk
                have c : ¬ nI n ≤ nI k := nI_ge hk (by omega)
                try dsimp only
                rw [fX5_count_L103_s, if_neg c, gin_nI (by omega) (by decide), nI_clamp (by omega), (hR' k hk).2, nI_add, nI_1', z_sum_s])
              (by
                intro fuel
                try dsimp only
                rw [fX5_count_L103_s, if_pos (nI_le (Nat.le_refl n) (by omega))])
            rw [if_pos p4, if_pos p4, bd_of (m_total hn hR)]
            exact ⟨_, _, rfl, (bd_of hm).trans rfl, rfl⟩
          · rw [if_neg p4, if_neg p4]; exact ⟨_, _, rfl, rfl, rfl⟩
