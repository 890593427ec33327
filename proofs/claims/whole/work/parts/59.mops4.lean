/-! worst; the start -/
theorem kind_cases (p : Int32) : (fX4_isRow p = some 0 ∧ fX5_in p 0 3 = some 0) ∨ (fX4_isRow p = some 1 ∧ fX5_in p 0 3 = some 1 ∧ ∃ i, i < 4 ∧ p = nI i) := by
  unfold fX4_isRow
  rcases in_cases p 0 3 with ⟨w1, w2⟩ | ⟨w1, w2, h3, h4⟩
  · exact Or.inl ⟨by rw [w1, bd_s], w2⟩
  · obtain ⟨j, j1, j2, rfl⟩ := in_rng 0 3 h3 h4 (by decide) (by decide)
    exact Or.inr ⟨by rw [w1, bd_s], w2, j, by omega, rfl⟩
theorem z_within0 (p : Int32) : (p = 0 ∧ fX4_within p 0 0 = some 1) ∨ (¬ p = 0 ∧ fX4_within p 0 0 = some 0) := by
  rcases in_cases p 0 0 with ⟨w1, -⟩ | ⟨w1, -, h3, h4⟩
  · refine Or.inr ⟨fun e => ?_, w1⟩
    subst e
    exact absurd w1 (by decide +kernel)
  · obtain ⟨j, j1, j2, rfl⟩ := in_rng 0 0 h3 h4 (by decide) (by decide)
    have : j = 0 := by omega
    subst this
    exact Or.inl ⟨rfl, w1⟩
theorem z_l2i {x : Nat} (hx : x < 2 ^ 31) : (lN x).toInt32 = nI x := lN_i x
theorem op_worst {vk rs : Int32} {rd : Nat → Int32} {bb : Int32} {ej : Nat → Int32} {vn vk' : Int32} {fr fb fj : Nat → Int32} (hI : Inv vk rs rd bb ej vn vk' fr fb fj) (ts : Int32) (td : Nat → Int32) (ns : Int32) (nd : Nat → Int32) (gs : Int32) (gd c : Nat → Int32) (A0 B0 C0 E0 : Int64) (fi fu : Nat → Int32) (p q w z : Int32) : ∃ (rc : Int32 × Int32 × (Nat → Int32) × Int32 × (Nat → Int32) × Int32 × (Nat → Int32) × (Nat → Int32)) (rm : Int32 × Int64 × Int64 × Int64 × Int64 × (Nat → Int32) × (Nat → Int32)), fX4_worst rs ts td ns nd gs gd c p q w z = some rc ∧ fX5_worst vn A0 B0 C0 E0 fi fu p q w z = some rm ∧ rc.1 = rm.1 := by
  obtain ⟨n, k, B, g, J, ⟨h2, hn, rfl, rfl, hR, hR'⟩, -, -, -⟩ := hI
  unfold fX4_worst fX5_worst
  rcases kind_cases p with ⟨w1, w2⟩ | ⟨w1, w2, s, h4, rfl⟩
  · exact ⟨((-2 : Int32), ts, td, ns, nd, gs, gd, c), ((-2 : Int32), A0, B0, C0, E0, fi, fu), by rw [bd_of w1, if_pos rfl], by rw [bd_of w2, if_pos rfl], rfl⟩
  · rw [bd_of w1, if_neg one_ne, bd_of w2, if_neg one_ne]
    rcases in_cases q 0 8 with ⟨v1, v2⟩ | ⟨v1, v2, g1, g2⟩
    · exact ⟨((-2 : Int32), ts, td, ns, nd, gs, gd, c), ((-2 : Int32), A0, B0, C0, E0, fi, fu), by rw [bd_of v1, if_pos rfl], by rw [bd_of v2, if_pos rfl], rfl⟩
    · obtain ⟨d, _, d8, rfl⟩ := in_rng 0 8 g1 g2 (by decide) (by decide)
      rw [bd_of v1, if_neg one_ne, bd_of v2, if_neg one_ne]
      rcases in_cases z 0 2 with ⟨u1, u2⟩ | ⟨u1, u2, g3, g4⟩
      · exact ⟨((-2 : Int32), ts, td, ns, nd, gs, gd, c), ((-2 : Int32), A0, B0, C0, E0, fi, fu), by rw [bd_of u1, if_pos rfl], by rw [bd_of u2, if_pos rfl], rfl⟩
      · obtain ⟨what, _, wh2, rfl⟩ := in_rng 0 2 g3 g4 (by decide) (by decide)
        obtain ⟨rc, c1, c2⟩ := m_worstCode (td := td) (nd := nd) (gd := gd) (c := c) ts ns gs h2 hn h4 d8
        obtain ⟨rm, m1, m2, m3⟩ := m_findWorst (fi := fi) (fu := fu) A0 B0 C0 E0 h2 hn h4 d8
        obtain ⟨p1, p2⟩ := z_pow2 n (by omega)
        rw [bd_of u1, if_neg one_ne, bd_of u2, if_neg one_ne]
        by_cases e0 : what = 0
        · subst e0
          rw [if_pos (show nI 0 = (0 : Int32) from rfl), bd_s, if_pos (show nI 0 = (0 : Int32) from rfl)]
          have hpl := place_cases (n := n) (by omega) hn w
          unfold fX4_isPlace at hpl
          rcases hpl with ⟨x1, x2⟩ | ⟨x1, x2, i, hi, rfl⟩
          · have x1' : fX4_within w 0 (nI n - 1) = some 0 := by
              cases hq : fX4_within w 0 (nI n - 1) with
              | none => rw [hq] at x1; cases x1
              | some r => rw [hq, bd_s] at x1; exact x1
            rw [bd_of x1', if_pos rfl, bd_of x2, if_pos rfl]
            exact ⟨_, _, rfl, rfl, rfl⟩
          · have x1' : fX4_within (nI i) 0 (nI n - 1) = some 1 := by
              cases hq : fX4_within (nI i) 0 (nI n - 1) with
              | none => rw [hq] at x1; cases x1
              | some r => rw [hq, bd_s] at x1; exact x1
            rw [bd_of x1', if_neg one_ne, bd_of x2, if_neg one_ne, bd_of c1, c2, bd_of m1, m2]
            cases hz : z_w s d n (2 ^ n) with
            | none =>
              rw [if_pos (show z_wc none = (-1 : Int32) from rfl), if_pos (show z_wc none = (-1 : Int32) from rfl)]
              exact ⟨_, _, rfl, rfl, rfl⟩
            | some b =>
              have lb := z_w_lt hz
              have ne : ¬ z_wc (some b) = (-1 : Int32) := z_nm1 (by omega)
              have eb : z_wc (some b) = nI b := rfl
              rw [if_neg ne, if_neg ne, eb, bd_of (m_spell hn (by omega) _ _), if_pos (show nI 0 = (0 : Int32) from rfl), gin_nI (by omega) (by decide), nI_clamp (by omega), nI_m1' (by omega), nI_sub' (by omega), z_bit (by omega) (by omega), if_pos (show nI 0 = (0 : Int32) from rfl)]
              exact ⟨_, _, rfl, rfl, z_fl_in (v := fun i => nI (z_bin n b i)) hi⟩
        · have ez : ¬ nI what = (0 : Int32) := fun q => e0 ((nI_eq (b := 0) (by omega) (by decide)).mp q)
          rw [if_neg ez, bd_s, if_neg ez]
          rcases z_within0 w with ⟨rfl, x1⟩ | ⟨x0, x1⟩
          · rw [bd_of x1, if_neg one_ne, if_pos rfl, bd_of c1, c2, bd_of m1, m2]
            cases hz : z_w s d n (2 ^ n) with
            | none =>
              rw [if_pos (show z_wc none = (-1 : Int32) from rfl), if_pos (show z_wc none = (-1 : Int32) from rfl)]
              exact ⟨_, _, rfl, rfl, rfl⟩
            | some b =>
              have lb := z_w_lt hz
              have ne : ¬ z_wc (some b) = (-1 : Int32) := z_nm1 (by omega)
              have eb : z_wc (some b) = nI b := rfl
              have lP := z_pass_le (g := z_bin n b) h2 hn h4
              have lL := z_look_in h2 hn h4
              obtain ⟨eC, eE⟩ := m3 b hz
              have hR2 := Rg_bin (n := n) (x := b) rc.2.2.1
              have hl := m_lowestTerm (a := z_pass (z_bin n b) n s) (b := z_look n s) (part := what - 1) lL.1 (by omega) (by omega) (by omega)
              have hred := m_reduce (a := z_pass (z_bin n b) n s) (b := z_look n s) lL.1 (by omega) (by omega)
              rw [if_neg ne, if_neg ne, eb, bd_of (m_spell hn (by omega) _ _), if_neg ez, if_neg ez]
              show ∃ rc' rm', (bd (fX2_passing (nI n) (z_fl (fun i => nI (z_bin n b i)) rc.2.2.1 n) (nI s)) fun r9 => bd (fX2_looks (nI n) (nI s)) fun r10 => _) = some rc' ∧ _ = some rm' ∧ _
              rw [bd_of (m_passing hn h4 hR2), bd_of (m_looks (by omega) hn h4), nI_m1' (by omega), bd_of hl, eC, eE, bd_of hred]
              rcases (show what = 1 ∨ what = 2 by omega) with rfl | rfl
              · rw [if_pos (show nI 1 = (1 : Int32) from rfl)]
                exact ⟨_, _, rfl, rfl, (lN_i _).symm⟩
              · rw [if_neg (show ¬ nI 2 = (1 : Int32) by decide)]
                exact ⟨_, _, rfl, rfl, (lN_i _).symm⟩
          · rw [bd_of x1, if_pos rfl, if_neg x0]
            exact ⟨_, _, rfl, rfl, rfl⟩
theorem Inv_start : Inv 3 8 (fun _ => 0) 0 (fun _ => 0) 8 3 (fun _ => 0) (fun _ => 0) (fun _ => 0) :=
  ⟨8, 3, 0, fun _ => 0, fun _ => 0, ⟨by decide, by decide, rfl, rfl, fun _ _ => ⟨Nat.zero_lt_succ 3, rfl⟩, fun _ _ => ⟨Nat.zero_lt_succ 3, rfl⟩⟩, ⟨by decide, by decide, rfl, rfl⟩, ⟨by decide, rfl, fun x _ => by rw [Nat.zero_div]; rfl⟩, fun _ _ => ⟨Nat.zero_lt_succ 63, rfl⟩, fun _ _ => ⟨Nat.zero_lt_succ 63, rfl⟩, fun a _ b _ => by rw [Nat.zero_div, Nat.zero_div], fun a _ => by rw [Nat.zero_div]⟩
