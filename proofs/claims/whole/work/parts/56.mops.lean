/-! each call: class and reference answer alike, and go on alike -/
theorem in_cases (p a b : Int32) : (fX4_within p a b = some 0 ∧ fX5_in p a b = some 0) ∨ (fX4_within p a b = some 1 ∧ fX5_in p a b = some 1 ∧ ¬ p < a ∧ ¬ b < p) := by
  unfold fX4_within fX5_in
  by_cases h1 : p < a
  · exact Or.inl ⟨if_pos h1, if_pos h1⟩
  · by_cases h2 : b < p
    · exact Or.inl ⟨by rw [if_neg h1, if_pos h2], by rw [if_neg h1, if_pos h2]⟩
    · exact Or.inr ⟨by rw [if_neg h1, if_neg h2], by rw [if_neg h1, if_neg h2], h1, h2⟩
theorem in_rng {p : Int32} (lo hi : Nat) (h1 : ¬ p < nI lo) (h2 : ¬ nI hi < p) (hl : lo < 2 ^ 31) (hh : hi < 2 ^ 31) : ∃ j, lo ≤ j ∧ j ≤ hi ∧ p = nI j := by
  have h0 : ¬ p < 0 := fun q => by
    have a := Int32.lt_iff_toInt_lt.mp q
    have b : (nI lo).toInt ≤ p.toInt := by
      rcases Int.lt_or_le p.toInt (nI lo).toInt with w | w
      · exact absurd (Int32.lt_iff_toInt_lt.mpr w) h1
      · exact w
    rw [nI_toInt hl] at b
    have c : (0 : Int32).toInt = 0 := by decide
    omega
  obtain ⟨j, hj, rfl⟩ := nI_of h0
  refine ⟨j, ?_, ?_, rfl⟩
  · rcases Nat.lt_or_ge j lo with w | w
    · exact absurd (nI_lt w hl) h1
    · exact w
  · rcases Nat.lt_or_ge hi j with w | w
    · exact absurd (nI_lt w hj) h2
    · exact w
def Inv (vk rs : Int32) (rd : Nat → Int32) (bb : Int32) (ej : Nat → Int32) (vn vk' : Int32) (fr fb fj : Nat → Int32) : Prop := ∃ (n k B : Nat) (g J : Nat → Nat), (2 ≤ n ∧ n ≤ 8 ∧ rs = nI n ∧ vn = nI n ∧ Rg rd g n ∧ Rg fr g n) ∧ (1 ≤ k ∧ k ≤ 6 ∧ vk = nI k ∧ vk' = nI k) ∧ (B < 256 ∧ bb = nI B ∧ Tb fb B) ∧ (Nt ej J ∧ Nt fj J ∧ Sy J)
theorem op_places {vk rs : Int32} {rd : Nat → Int32} {bb : Int32} {ej : Nat → Int32} {vn vk' : Int32} {fr fb fj : Nat → Int32} (hI : Inv vk rs rd bb ej vn vk' fr fb fj) (p : Int32) : ∃ rc rm, fX4_places rs rd p = some rc ∧ fX5_places vn fr p = some rm ∧ rc.1 = rm.1 ∧ Inv vk rc.2.1 rc.2.2 bb ej rm.2.1 vk' rm.2.2 fb fj := by
  have hI0 := hI
  obtain ⟨n, k, B, g, J, ⟨h2, hn, rfl, rfl, hR, hR'⟩, hk, hB, hJ⟩ := hI
  rcases in_cases p 2 8 with ⟨w1, w2⟩ | ⟨w1, w2, h3, h4⟩
  · exact ⟨((-2 : Int32), nI n, rd), ((-2 : Int32), nI n, fr), by unfold fX4_places; rw [bd_of w1, if_pos rfl], by unfold fX5_places; rw [bd_of w2, if_pos rfl], rfl, hI0⟩
  · obtain ⟨j, j1, j2, rfl⟩ := in_rng 2 8 h3 h4 (by decide) (by decide)
    have hm : fX5_places_L25 FU (nI 0) (z_fl (fun _ => 0) fr 0) = some (nI 8, z_fl (fun _ => 0) fr 8) := lp_FU (fun fuel k => fX5_places_L25 fuel (nI k) (z_fl (fun _ => 0) fr k)) 8 _ (by decide) 0 (by decide)
      (by
        intro k fuel hk
        have c : ¬ (8 : Int32) ≤ nI k := nI_ge hk (by decide)
        try dsimp only
        rw [fX5_places_L25_s, if_neg c, gin_nI hk (by decide), nI_clamp (by omega), nI_1']
        exact congrArg (fun z => fX5_places_L25 fuel (nI (k + 1)) z) (z_fl_s' _ _ _ _ rfl))
      (by
        intro fuel
        try dsimp only
        rw [fX5_places_L25_s, if_pos (by decide)])
    rw [z_fl_0] at hm
    refine ⟨(nI n, nI j, z_fl (fun _ => 0) rd 8), (nI n, nI j, z_fl (fun _ => 0) fr 8), ?_, ?_, rfl, j, k, B, fun _ => 0, J, ⟨j1, j2, rfl, rfl, fun i hi => ⟨Nat.zero_lt_succ 3, z_fl_in (v := fun _ => 0) (show i < 8 by omega)⟩, fun i hi => ⟨Nat.zero_lt_succ 3, z_fl_in (v := fun _ => 0) (show i < 8 by omega)⟩⟩, hk, hB, hJ⟩
    · unfold fX4_places
      rw [bd_of w1, if_neg (by decide), m_clear, bd_s]
    · unfold fX5_places
      rw [bd_of w2, if_neg (by decide)]
      exact (bd_of hm).trans rfl
theorem Rg_upd {f : Nat → Int32} {g : Nat → Nat} {n i v : Nat} (hR : Rg f g n) (hv : v < 4) : Rg (upd f i (nI v)) (fun j => if j = i then v else g j) n := fun j hj => by
  by_cases e : j = i
  · subst e
    exact ⟨by show (if j = j then v else g j) < 4; rw [if_pos rfl]; exact hv, by show upd f j (nI v) j = nI (if j = j then v else g j); rw [pk_us, if_pos rfl]⟩
  · exact ⟨by show (if j = i then v else g j) < 4; rw [if_neg e]; exact (hR j hj).1, by show upd f i (nI v) j = nI (if j = i then v else g j); rw [pk_un e, if_neg e]; exact (hR j hj).2⟩
theorem place_cases {n : Nat} (h2 : 1 ≤ n) (hn : n ≤ 8) (p : Int32) : (fX4_isPlace (nI n) p = some 0 ∧ fX5_isPlace (nI n) p = some 0) ∨ (fX4_isPlace (nI n) p = some 1 ∧ fX5_isPlace (nI n) p = some 1 ∧ ∃ i, i < n ∧ p = nI i) := by
  unfold fX4_isPlace fX5_isPlace
  rw [nI_m1' h2]
  rcases in_cases p 0 (nI (n - 1)) with ⟨w1, w2⟩ | ⟨w1, w2, h3, h4⟩
  · exact Or.inl ⟨by rw [w1, bd_s], by rw [w2, bd_s]⟩
  · obtain ⟨j, j1, j2, rfl⟩ := in_rng 0 (n - 1) h3 h4 (by decide) (by omega)
    exact Or.inr ⟨by rw [w1, bd_s], by rw [w2, bd_s], j, by omega, rfl⟩
theorem op_digit {vk rs : Int32} {rd : Nat → Int32} {bb : Int32} {ej : Nat → Int32} {vn vk' : Int32} {fr fb fj : Nat → Int32} (hI : Inv vk rs rd bb ej vn vk' fr fb fj) (p q : Int32) : ∃ rc rm, fX4_digit rs rd p q = some rc ∧ fX5_digit vn fr p q = some rm ∧ rc.1 = rm.1 ∧ Inv vk rs rc.2 bb ej vn vk' rm.2 fb fj := by
  have hI0 := hI
  obtain ⟨n, k, B, g, J, ⟨h2, hn, rfl, rfl, hR, hR'⟩, hk, hB, hJ⟩ := hI
  unfold fX4_digit fX5_digit
  rcases place_cases (by omega) hn p with ⟨w1, w2⟩ | ⟨w1, w2, i, hi, rfl⟩
  · exact ⟨((-2 : Int32), rd), ((-2 : Int32), fr), by rw [bd_of w1, if_pos rfl], by rw [bd_of w2, if_pos rfl], rfl, hI0⟩
  · rcases in_cases q 0 3 with ⟨v1, v2⟩ | ⟨v1, v2, h3, h4⟩
    · exact ⟨((-2 : Int32), rd), ((-2 : Int32), fr), by rw [bd_of w1, if_neg (by decide), bd_of v1, if_pos rfl], by rw [bd_of w2, if_neg (by decide), bd_of v2, if_pos rfl], rfl, hI0⟩
    · obtain ⟨v, _, v5, rfl⟩ := in_rng 0 3 h3 h4 (by decide) (by decide)
      refine ⟨(rd i, upd rd i (nI v)), (fr i, upd fr i (nI v)), ?_, ?_, ?_, n, k, B, fun j => if j = i then v else g j, J, ⟨h2, hn, rfl, rfl, Rg_upd hR (by omega), Rg_upd hR' (by omega)⟩, hk, hB, hJ⟩
      · rw [bd_of w1, if_neg (by decide), bd_of v1, if_neg (by decide), gin_nI (by omega) (by decide), gin_nI (by omega) (by decide), nI_clamp (by omega)]
      · rw [bd_of w2, if_neg (by decide), bd_of v2, if_neg (by decide), gin_nI (by omega) (by decide), gin_nI (by omega) (by decide), nI_clamp (by omega)]
      · show rd i = fr i
        rw [(hR i hi).2, (hR' i hi).2]
theorem eight_cases (p : Int32) : (fX4_isEntry p = some 0 ∧ fX5_isEight p = some 0) ∨ (fX4_isEntry p = some 1 ∧ fX5_isEight p = some 1 ∧ ∃ i, i < 8 ∧ p = nI i) := by
  unfold fX4_isEntry fX5_isEight
  rcases in_cases p 0 7 with ⟨w1, w2⟩ | ⟨w1, w2, h3, h4⟩
  · exact Or.inl ⟨by rw [w1, bd_s], by rw [w2, bd_s]⟩
  · obtain ⟨j, j1, j2, rfl⟩ := in_rng 0 7 h3 h4 (by decide) (by decide)
    exact Or.inr ⟨by rw [w1, bd_s], by rw [w2, bd_s], j, by omega, rfl⟩
theorem bit_cases (p : Int32) : (fX4_within p 0 1 = some 0 ∧ fX5_isBit p = some 0) ∨ (fX4_within p 0 1 = some 1 ∧ fX5_isBit p = some 1 ∧ ∃ i, i < 2 ∧ p = nI i) := by
  unfold fX5_isBit
  rcases in_cases p 0 1 with ⟨w1, w2⟩ | ⟨w1, w2, h3, h4⟩
  · exact Or.inl ⟨w1, by rw [w2, bd_s]⟩
  · obtain ⟨j, j1, j2, rfl⟩ := in_rng 0 1 h3 h4 (by decide) (by decide)
    exact Or.inr ⟨w1, by rw [w2, bd_s], j, by omega, rfl⟩
theorem op_bit {vk rs : Int32} {rd : Nat → Int32} {bb : Int32} {ej : Nat → Int32} {vn vk' : Int32} {fr fb fj : Nat → Int32} (hI : Inv vk rs rd bb ej vn vk' fr fb fj) (p q : Int32) : ∃ rc rm, fX4_bit bb p q = some rc ∧ fX5_bit fb p q = some rm ∧ rc.1 = rm.1 ∧ Inv vk rs rd rc.2 ej vn vk' fr rm.2 fj := by
  have hI0 := hI
  obtain ⟨n, k, B, g, J, hn, hk, ⟨hB, rfl, hT⟩, hJ⟩ := hI
  unfold fX4_bit fX5_bit
  rcases eight_cases p with ⟨w1, w2⟩ | ⟨w1, w2, x, hx, rfl⟩
  · exact ⟨_, _, by rw [bd_of w1, if_pos rfl], by rw [bd_of w2, if_pos rfl], rfl, hI0⟩
  · rcases bit_cases q with ⟨v1, v2⟩ | ⟨v1, v2, v, hv, rfl⟩
    · exact ⟨_, _, by rw [bd_of w1, if_neg (by decide), bd_of v1, if_pos rfl], by rw [bd_of w2, if_neg (by decide), bd_of v2, if_pos rfl], rfl, hI0⟩
    · obtain ⟨z1, z2⟩ := z_put_bit B hB x hx v hv
      refine ⟨(nI (B / 2 ^ x % 2), nI (z_put B x v)), (fb x, upd fb x (nI v)), ?_, ?_, ?_, n, k, z_put B x v, g, J, hn, hk, ⟨z1, rfl, fun y hy => ?_⟩, hJ⟩
      · rw [bd_of w1, if_neg (by decide), bd_of v1, if_neg (by decide), bd_of (m_at hB hx), bd_of (m_put hB hx hv)]
      · rw [bd_of w2, if_neg (by decide), bd_of v2, if_neg (by decide), gin_nI (by omega) (by decide), gin_nI (by omega) (by decide), nI_clamp (by omega)]
      · exact (hT x hx).symm
      · rw [z2 y hy]
        by_cases e : y = x
        · subst e; rw [if_pos rfl]; exact pk_us
        · rw [if_neg e]; show upd fb x (nI v) y = _; rw [pk_un e]; exact hT y hy
theorem op_linear {vk rs : Int32} {rd : Nat → Int32} {bb : Int32} {ej : Nat → Int32} {vn vk' : Int32} {fr fb fj : Nat → Int32} (hI : Inv vk rs rd bb ej vn vk' fr fb fj) (p : Int32) : ∃ rc rm, fX4_linear bb p = some rc ∧ fX5_linear fb p = some rm ∧ rc.1 = rm.1 ∧ Inv vk rs rd rc.2 ej vn vk' fr rm.2 fj := by
  have hI0 := hI
  obtain ⟨n, k, B, g, J, hn, hk, ⟨hB, rfl, hT⟩, hJ⟩ := hI
  rcases eight_cases p with ⟨w1, w2⟩ | ⟨w1, w2, x, hx, rfl⟩
  · exact ⟨_, _, by unfold fX4_linear; rw [bd_of w1, if_pos rfl], by unfold fX5_linear; rw [bd_of w2, if_pos rfl], rfl, hI0⟩
  · obtain ⟨f', h1, h2⟩ := m_linear (f := fb) hx
    exact ⟨(1, nI (z_par x)), (1, f'), by unfold fX4_linear; rw [bd_of w1, if_neg (by decide), bd_of (m_parities_L hx)], h1, rfl, n, k, z_par x, g, J, hn, hk, ⟨z_par_lt x hx, rfl, h2⟩, hJ⟩
theorem point_cases (p : Int32) : (fX4_isPoint p = some 0 ∧ fX5_isPoint p = some 0) ∨ (fX4_isPoint p = some 1 ∧ fX5_isPoint p = some 1 ∧ ∃ i, i < 6 ∧ p = nI i) := by
  unfold fX4_isPoint fX5_isPoint
  rcases in_cases p 0 5 with ⟨w1, w2⟩ | ⟨w1, w2, h3, h4⟩
  · exact Or.inl ⟨by rw [w1, bd_s], by rw [w2, bd_s]⟩
  · obtain ⟨j, j1, j2, rfl⟩ := in_rng 0 5 h3 h4 (by decide) (by decide)
    exact Or.inr ⟨by rw [w1, bd_s], by rw [w2, bd_s], j, by omega, rfl⟩
theorem z_set1 : ∀ m, m < 64 → ∀ b, b < 6 → nI m ||| ((1 : Int32) <<< (nI b &&& 31)) = nI (z_put m b 1) ∧ nI m &&& (((1 : Int32) <<< (nI b &&& 31)) ^^^ (-1 : Int32)) = nI (z_put m b 0) := by decide +kernel
theorem z_set_bit : ∀ m, m < 64 → ∀ b, b < 6 → ∀ v, v < 2 → z_put m b v < 64 ∧ ∀ y, y < 6 → z_put m b v / 2 ^ y % 2 = if y = b then v else m / 2 ^ y % 2 := by decide +kernel
/-- the net with the LINE between a and b there (v 1) or not (v 0) -/
def z_ln (J : Nat → Nat) (a b v i : Nat) : Nat := if i = b then z_put (J b) a v else if i = a then z_put (J a) b v else J i
theorem z_ln_ok {f : Nat → Int32} {J : Nat → Nat} {a b v : Nat} (hN : Nt f J) (ha : a < 6) (hb : b < 6) (hv : v < 2) (hab : a ≠ b) : Nt (upd (upd f a (nI (z_put (J a) b v))) b (nI (z_put (J b) a v))) (z_ln J a b v) := fun i hi => by
  unfold z_ln
  by_cases e1 : i = b
  · subst e1
    rw [if_pos rfl, pk_us]
    exact ⟨(z_set_bit _ (hN i hi).1 a ha v hv).1, rfl⟩
  · rw [if_neg e1, pk_un e1]
    by_cases e2 : i = a
    · subst e2
      rw [if_pos rfl, pk_us]
      exact ⟨(z_set_bit _ (hN i hi).1 b hb v hv).1, rfl⟩
    · rw [if_neg e2, pk_un e2]
      exact hN i hi
theorem z_ln_Sy {f : Nat → Int32} {J : Nat → Nat} {a b v : Nat} (hN : Nt f J) (hs : Sy J) (ha : a < 6) (hb : b < 6) (hv : v < 2) (hab : a ≠ b) : Sy (z_ln J a b v) := by
  have ea := (z_set_bit _ (hN a ha).1 b hb v hv).2
  have eb := (z_set_bit _ (hN b hb).1 a ha v hv).2
  have bit : ∀ i, i < 6 → ∀ j, j < 6 → z_ln J a b v i / 2 ^ j % 2 = if (i = a ∧ j = b) ∨ (i = b ∧ j = a) then v else J i / 2 ^ j % 2 := by
    intro i hi j hj
    unfold z_ln
    by_cases e1 : i = b
    · subst e1
      rw [if_pos rfl, eb j hj]
      by_cases e2 : j = a
      · rw [if_pos e2, if_pos (Or.inr ⟨rfl, e2⟩)]
      · rw [if_neg e2, if_neg (fun q => q.elim (fun z => hab z.1.symm) (fun z => e2 z.2))]
    · rw [if_neg e1]
      by_cases e2 : i = a
      · subst e2
        rw [if_pos rfl, ea j hj]
        by_cases e3 : j = b
        · rw [if_pos e3, if_pos (Or.inl ⟨rfl, e3⟩)]
        · rw [if_neg e3, if_neg (fun q => q.elim (fun z => e3 z.2) (fun z => e1 z.1))]
      · rw [if_neg e2, if_neg (fun q => q.elim (fun z => e2 z.1) (fun z => e1 z.1))]
  refine ⟨fun i hi j hj => ?_, fun i hi => ?_⟩
  · rw [bit i hi j hj, bit j hj i hi, hs.1 i hi j hj]
    by_cases q : (i = a ∧ j = b) ∨ (i = b ∧ j = a)
    · rw [if_pos q, if_pos (q.elim (fun z => Or.inr ⟨z.2, z.1⟩) (fun z => Or.inl ⟨z.2, z.1⟩))]
    · rw [if_neg q, if_neg (fun w => q (w.elim (fun z => Or.inr ⟨z.2, z.1⟩) (fun z => Or.inl ⟨z.2, z.1⟩)))]
  · rw [bit i hi i hi, if_neg (fun q => q.elim (fun z => hab (z.1.symm.trans z.2)) (fun z => hab (z.2.symm.trans z.1))), hs.2 i hi]
theorem op_line {vk rs : Int32} {rd : Nat → Int32} {bb : Int32} {ej : Nat → Int32} {vn vk' : Int32} {fr fb fj : Nat → Int32} (hI : Inv vk rs rd bb ej vn vk' fr fb fj) (p q w : Int32) : ∃ rc rm, fX4_line ej p q w = some rc ∧ fX5_line fj p q w = some rm ∧ rc.1 = rm.1 ∧ Inv vk rs rd bb rc.2 vn vk' fr fb rm.2 := by
  have hI0 := hI
  obtain ⟨n, k, B, g, J, hn, hk, hB, hN, hN', hs⟩ := hI
  unfold fX4_line fX5_line
  rcases point_cases p with ⟨w1, w2⟩ | ⟨w1, w2, a, ha, rfl⟩
  · exact ⟨((-2 : Int32), ej), ((-2 : Int32), fj), by rw [bd_of w1, if_pos rfl], by rw [bd_of w2, if_pos rfl], rfl, hI0⟩
  · rcases point_cases q with ⟨v1, v2⟩ | ⟨v1, v2, b, hb, rfl⟩
    · exact ⟨((-2 : Int32), ej), ((-2 : Int32), fj), by rw [bd_of w1, if_neg (by decide), bd_of v1, if_pos rfl], by rw [bd_of w2, if_neg (by decide), bd_of v2, if_pos rfl], rfl, hI0⟩
    · by_cases e : a = b
      · have e' : nI a = nI b := by rw [e]
        exact ⟨((-2 : Int32), ej), ((-2 : Int32), fj), by rw [bd_of w1, if_neg (by decide), bd_of v1, if_neg (by decide), if_pos e'], by rw [bd_of w2, if_neg (by decide), bd_of v2, if_neg (by decide), if_pos e'], rfl, hI0⟩
      · have e' : ¬ nI a = nI b := fun z => e ((nI_eq (by omega) (by omega)).mp z)
        have ja := hN a ha
        have jb := hN b hb
        have ja' := hN' a ha
        have jb' := hN' b hb
        have u1 : ∀ (f : Nat → Int32) (x : Int32), upd f a x b = f b := fun f x => pk_un (fun z => e z.symm)
        have hj : fX1_joined ej (nI a) (nI b) = some (nI (J a / 2 ^ b % 2)) := by
          unfold fX1_joined
          rw [gin_nI ha (by decide), nI_clamp (by omega), ja.2, z_bit (by omega) (by omega)]
        by_cases ew : w = 0
        · have hjn : fX1_join ej (nI a) (nI b) w = some (upd (upd ej a (nI (z_put (J a) b 0))) b (nI (z_put (J b) a 0))) := by
            unfold fX1_join
            rw [if_pos ew, gin_nI ha (by decide), gin_nI ha (by decide), gin_nI hb (by decide), gin_nI hb (by decide), nI_clamp (by omega), nI_clamp (by omega), u1, ja.2, jb.2, (z_set1 _ ja.1 b hb).2, (z_set1 _ jb.1 a ha).2]
          refine ⟨(nI (J a / 2 ^ b % 2), upd (upd ej a (nI (z_put (J a) b 0))) b (nI (z_put (J b) a 0))), (nI (J a / 2 ^ b % 2), upd (upd fj a (nI (z_put (J a) b 0))) b (nI (z_put (J b) a 0))), ?_, ?_, rfl, n, k, B, g, z_ln J a b 0, hn, hk, hB, z_ln_ok hN ha hb (by decide) e, z_ln_ok hN' ha hb (by decide) e, z_ln_Sy hN hs ha hb (by decide) e⟩
          · rw [bd_of w1, if_neg (by decide), bd_of v1, if_neg (by decide), if_neg e', bd_of hj, bd_of hjn]
          · rw [bd_of w2, if_neg (by decide), bd_of v2, if_neg (by decide), if_neg e', gin_nI ha (by decide), if_pos ew, gin_nI ha (by decide), bd_s, gin_nI ha (by decide), if_pos ew, gin_nI hb (by decide), gin_nI hb (by decide), nI_clamp (by omega), nI_clamp (by omega), u1, ja'.2, jb'.2, z_bit (by omega) (by omega), (z_set1 _ ja.1 b hb).2, (z_set1 _ jb.1 a ha).2]
        · have hjn : fX1_join ej (nI a) (nI b) w = some (upd (upd ej a (nI (z_put (J a) b 1))) b (nI (z_put (J b) a 1))) := by
            unfold fX1_join
            rw [if_neg ew, gin_nI ha (by decide), gin_nI ha (by decide), gin_nI hb (by decide), gin_nI hb (by decide), nI_clamp (by omega), nI_clamp (by omega), u1, ja.2, jb.2, (z_set1 _ ja.1 b hb).1, (z_set1 _ jb.1 a ha).1]
          refine ⟨(nI (J a / 2 ^ b % 2), upd (upd ej a (nI (z_put (J a) b 1))) b (nI (z_put (J b) a 1))), (nI (J a / 2 ^ b % 2), upd (upd fj a (nI (z_put (J a) b 1))) b (nI (z_put (J b) a 1))), ?_, ?_, rfl, n, k, B, g, z_ln J a b 1, hn, hk, hB, z_ln_ok hN ha hb (by decide) e, z_ln_ok hN' ha hb (by decide) e, z_ln_Sy hN hs ha hb (by decide) e⟩
          · rw [bd_of w1, if_neg (by decide), bd_of v1, if_neg (by decide), if_neg e', bd_of hj, bd_of hjn]
          · rw [bd_of w2, if_neg (by decide), bd_of v2, if_neg (by decide), if_neg e', gin_nI ha (by decide), if_neg ew, gin_nI ha (by decide), bd_s, gin_nI ha (by decide), if_neg ew, gin_nI hb (by decide), gin_nI hb (by decide), nI_clamp (by omega), nI_clamp (by omega), u1, ja'.2, jb'.2, z_bit (by omega) (by omega), (z_set1 _ ja.1 b hb).1, (z_set1 _ jb.1 a ha).1]
theorem op_draw {vk rs : Int32} {rd : Nat → Int32} {bb : Int32} {ej : Nat → Int32} {vn vk' : Int32} {fr fb fj : Nat → Int32} (hI : Inv vk rs rd bb ej vn vk' fr fb fj) (p : Int32) : ∃ rc rm, fX4_draw vk p = some rc ∧ fX5_draw vk' p = some rm ∧ rc.1 = rm.1 ∧ Inv rc.2 rs rd bb ej vn rm.2 fr fb fj := by
  have hI0 := hI
  obtain ⟨n, k, B, g, J, hn, ⟨k1, k2, rfl, rfl⟩, hB, hJ⟩ := hI
  unfold fX4_draw fX5_draw
  rcases in_cases p 1 6 with ⟨w1, w2⟩ | ⟨w1, w2, h3, h4⟩
  · exact ⟨_, _, by rw [bd_of w1, if_pos rfl], by rw [bd_of w2, if_pos rfl], rfl, hI0⟩
  · obtain ⟨j, j1, j2, rfl⟩ := in_rng 1 6 h3 h4 (by decide) (by decide)
    exact ⟨(nI k, nI j), (nI k, nI j), by rw [bd_of w1, if_neg (by decide)], by rw [bd_of w2, if_neg (by decide)], rfl, n, j, B, g, J, hn, ⟨j1, j2, rfl, rfl⟩, hB, hJ⟩
