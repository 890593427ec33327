/-! the nearest row: the program's and the reference's -/
def z_fk (kind : Nat) (g : Nat → Nat) (n : Nat) : Nat := if kind = 0 then z_d0 g n else if kind = 1 then z_mm g n else if kind = 2 then z_sum g n % 2 else z_rd g n
theorem m_fromKind {n kind : Nat} {f : Nat → Int32} {g : Nat → Nat} (h2 : 2 ≤ n) (hn : n ≤ 8) (hk : kind < 4) (hf : Rg f g n) (u : Nat → Int32) : ∃ u', fX5_fromKind (nI n) f u (nI kind) = some (nI (z_fk kind g n), u') := by
  unfold fX5_fromKind
  rcases (show kind = 0 ∨ kind = 1 ∨ kind = 2 ∨ kind = 3 by omega) with rfl | rfl | rfl | rfl
  · obtain ⟨u', h⟩ := m_fromRising hn hf u
    refine ⟨u', ?_⟩
    rw [if_pos (by rfl), bd_of h]
    rfl
  · refine ⟨u, ?_⟩
    rw [if_neg (by decide), if_pos (by rfl), bd_of (m_fromMirrored hn hf)]
    rfl
  · refine ⟨u, ?_⟩
    rw [if_neg (by decide), if_neg (by decide), if_pos (by rfl), bd_of (m_fromEven hn hf)]
    rfl
  · refine ⟨u, ?_⟩
    rw [if_neg (by decide), if_neg (by decide), if_neg (by decide), bd_of (m_fromRound h2 hn hf)]
    rfl
theorem Rg_fl {f a : Nat → Int32} {g : Nat → Nat} {n : Nat} (hn : n ≤ 8) (hf : Rg f g n) : Rg (z_fl f a 8) g n := fun i hi => by
  rw [z_fl_in (show i < 8 by omega)]
  exact hf i hi
theorem m_seek {n kind : Nat} {f nd gd c : Nat → Int32} {g : Nat → Nat} (ns gs : Int32) (h2 : 2 ≤ n) (hn : n ≤ 8) (hk : kind < 4) (hf : Rg f g n) : ∃ (r : Int32 × Int32 × (Nat → Int32) × Int32 × (Nat → Int32) × (Nat → Int32)) (h : Nat → Nat), fX0_seek ns nd gs gd c (nI n) f (nI kind) = some r ∧ r.1 = nI (z_fk kind g n) ∧ r.2.1 = nI n ∧ Rg r.2.2.1 h n ∧ Near (fun y => z_fk kind y n) g h n := by
  have hg : D4 g n := fun i hi => (hf i hi).1
  have hfl := Rg_fl (a := nd) hn hf
  unfold fX0_seek
  rw [m_become, bd_s]
  rcases (show kind = 0 ∨ kind = 1 ∨ kind = 2 ∨ kind = 3 by omega) with rfl | rfl | rfl | rfl
  · obtain ⟨c', h⟩ := m_raise (a := z_fl f nd 8) (c := c) (by omega) hn hf
    have hR : Rg (z_fl (fun i => nI (z_ri g n i)) (z_fl f nd 8) n) (z_ri g n) n := fun i hi => ⟨z_ri_D4 g hn i hi, z_fl_in hi⟩
    have hN := near0 (g := g) hn
    rw [if_pos (by rfl)]
    show ∃ r h, (bd (fX0_raise (z_fl f nd 8) c (nI n) f) fun r3 => _) = some r ∧ _
    rw [bd_of h]
    show ∃ r h, (bd (fX2_differing (nI n) f (z_fl (fun i => nI (z_ri g n i)) (z_fl f nd 8) n)) fun r4 => _) = some r ∧ _
    rw [bd_of (m_differing hn hf hR)]
    exact ⟨_, z_ri g n, rfl, congrArg nI hN.2.1, rfl, hR, hN⟩
  · have h := m_mirror (a := z_fl f nd 8) hn hf
    have hN := near1 (g := g) hn hg
    have hR : Rg (z_fl (fun i => nI (z_mr g n i)) (z_fl f nd 8) n) (z_mr g n) n := fun i hi => ⟨hN.1 i hi, z_fl_in hi⟩
    rw [if_neg (by decide), if_pos (by rfl)]
    show ∃ r h, (bd (fX0_mirror (z_fl f nd 8) (nI n) f) fun r3 => _) = some r ∧ _
    rw [bd_of h, bd_of (m_differing hn hf hR)]
    exact ⟨_, z_mr g n, rfl, congrArg nI hN.2.1, rfl, hR, hN⟩
  · obtain ⟨f', h, hf'⟩ := m_makeEven hn hfl
    have hN := near2 (g := g) hg
    have hR : Rg f' (z_ev g n) n := fun i hi => ⟨hN.1 i hi, hf' i hi⟩
    rw [if_neg (by decide), if_neg (by decide), if_pos (by rfl)]
    show ∃ r h, (bd (fX0_makeEven (nI n) (z_fl f nd 8)) fun r3 => _) = some r ∧ _
    rw [bd_of h, bd_of (m_differing hn hf hR)]
    exact ⟨_, z_ev g n, rfl, congrArg nI hN.2.1, rfl, hR, hN⟩
  · obtain ⟨r, h, fw, h3, hR, hM, h4⟩ := m_makeRound (nd := z_fl f nd 8) (gd := gd) (nI n) gs h2 hn hf
    have hN := near3 h2 hn hg hM
    rw [if_neg (by decide), if_neg (by decide), if_neg (by decide)]
    show ∃ r h, (bd (fX0_makeRound (nI n) (z_fl f nd 8) gs gd (nI n) f) fun r3 => _) = some r ∧ _
    rw [bd_of h3, bd_of (m_differing hn hf hR)]
    exact ⟨_, h, rfl, congrArg nI hN.2.1, h4, hR, hN⟩
theorem z_df_comm (g h : Nat → Nat) (n : Nat) : z_df g h n = z_df h g n := z_sum_congr (fun i _ => by
  by_cases e : g i = h i
  · rw [if_pos e, if_pos e.symm]
  · rw [if_neg e, if_neg (fun q => e q.symm)])
theorem z_pow4 : ∀ n, n < 9 → ((1 : Int32) <<< (((2 : Int32) * nI n) &&& 31)) = nI (4 ^ n) ∧ 4 ^ n ≤ 65536 := by decide +kernel
theorem z_digit {n x i : Nat} (hn : n ≤ 8) (hi : i < n) (hx : x < 2 ^ 31) : (nI x >>> (((2 : Int32) * ((nI n - (1 : Int32)) - nI i)) &&& 31)) &&& (3 : Int32) = nI (z_dec n x i) := by
  rw [nI_m1' (by omega), nI_sub' (by omega), show (2 : Int32) = nI 2 from rfl, pk_mul, pk_shrN hx _ (2 * (n - 1 - i)) (z_sl _ (by omega))]
  rw [pk_andN (k := 2) (by have := Nat.div_le_self x (2 ^ (2 * (n - 1 - i))); omega) (by decide)]
  unfold z_dec
  rw [Nat.pow_mul]
theorem m_fn34 {n x : Nat} {fr fi : Nat → Int32} {g : Nat → Nat} (hn : n ≤ 8) (hr : Rg fr g n) (hx : x < 2 ^ 31) : fX5_findNearest_L34 FU (nI x) (0 : Int32) (0 : Int32) (nI n) fr fi = some (nI (z_df g (z_dec n x) n), nI n, z_fl (fun i => nI (z_dec n x i)) fi n) := by
  have hh : fX5_findNearest_L34 FU (nI x) (nI (z_df g (z_dec n x) 0)) (nI 0) (nI n) fr (z_fl (fun i => nI (z_dec n x i)) fi 0) = some (nI (z_df g (z_dec n x) n), nI n, z_fl (fun i => nI (z_dec n x i)) fi n) :=
    lp_FU (fun fuel k => fX5_findNearest_L34 fuel (nI x) (nI (z_df g (z_dec n x) k)) (nI k) (nI n) fr (z_fl (fun i => nI (z_dec n x i)) fi k)) n _ (by omega) 0 (Nat.zero_le _)
    (by
      intro k fuel hk
      have c : ¬ nI n ≤ nI k := nI_ge hk (by omega)
      have b1 := hr k hk
      have b2 := z_dec_lt n x k hk
      have es : z_df g (z_dec n x) (k + 1) = z_df g (z_dec n x) k + (if g k = z_dec n x k then 0 else 1) := rfl
      have eu : upd (z_fl (fun i => nI (z_dec n x i)) fi k) k (nI (z_dec n x k)) = z_fl (fun i => nI (z_dec n x i)) fi (k + 1) := z_fl_s' _ _ _ _ rfl
      try dsimp only
      rw [fX5_findNearest_L34_s, if_neg c, gin_nI (by omega) (by decide), gin_nI (by omega) (by decide), gin_nI (by omega) (by decide), z_digit hn hk hx, nI_clamp (by omega), pk_us, b1.2, nI_1', nI_1', nI_add0, eu, es]
      by_cases e : g k = z_dec n x k
      · rw [if_pos (by rw [e]), if_pos e]; rfl
      · rw [if_neg (fun q => e ((nI_eq (by omega) (by omega)).mp q).symm), if_neg e])
    (by
      intro fuel
      try dsimp only
      rw [fX5_findNearest_L34_s, if_pos (nI_le (Nat.le_refl n) (by omega))])
  rw [z_fl_0] at hh
  exact hh
theorem m_findNearest {n kind : Nat} {fr fi fu : Nat → Int32} {g h : Nat → Nat} (h2 : 2 ≤ n) (hn : n ≤ 8) (hk : kind < 4) (hr : Rg fr g n) (hN : Near (fun y => z_fk kind y n) g h n) : ∃ it' u', fX5_findNearest (nI n) fr fi fu (nI kind) = some (it', u') ∧ Rg it' h n := by
  obtain ⟨nD, n1, n2, n3⟩ := hN
  have n1 : z_df g h n = z_fk kind g n := n1
  have n2 : z_fk kind h n = 0 := n2
  have hdl := z_df_le g h n
  have hclt := z_cd_lt nD
  obtain ⟨p1, p2⟩ := z_pow4 n (by omega)
  have hdec : ∀ x, Rg (z_fl (fun i => nI (z_dec n x i)) fi n) (z_dec n x) n := fun x i hi => ⟨z_dec_lt n x i hi, z_fl_in hi⟩
  have key : ∀ (d x fuel : Nat) (it u : Nat → Int32), x + d = z_cd h n → d + 1 < fuel → ∃ (r : Int32 × Int32 × (Nat → Int32) × (Nat → Int32)), fX5_findNearest_L11 fuel (nI kind) (nI (z_fk kind g n)) (0 : Int32) (nI x) (nI n) fr it u = some r ∧ Rg r.2.2.1 h n := by
    intro d
    induction d with
    | zero =>
      intro x fuel it u hx hf
      have ex : x = z_cd h n := by omega
      cases fuel with
      | zero => omega
      | succ fuel =>
        cases fuel with
        | zero => omega
        | succ fuel =>
          have ed := z_dec_of nD
          have hit : Rg (z_fl (fun i => nI (z_dec n x i)) it n) h n := fun i hi => ⟨nD i hi, by rw [z_fl_in hi, ex, ed i hi]⟩
          have e1 : z_df g (z_dec n x) n = z_fk kind g n := by rw [← n1, ex]; exact z_df_congr (fun _ _ => rfl) ed
          obtain ⟨u1, hu1⟩ := m_fromKind h2 hn hk hit u
          rw [fX5_findNearest_L11_s, p1, if_neg (nI_ge (by omega) (by omega)), if_pos (by rfl), bd_of (m_fn34 hn hr (by omega))]
          show ∃ r, (if nI (z_df g (z_dec n x) n) = nI (z_fk kind g n) then (bd (fX5_fromKind (nI n) (z_fl (fun i => nI (z_dec n x i)) it n) u (nI kind)) fun r6 => _) else _) = some r ∧ _
          rw [if_pos (by rw [e1]), bd_of hu1, n2]
          show ∃ r, (if nI 0 = 0 then fX5_findNearest_L11 (fuel + 1) (nI kind) (nI (z_fk kind g n)) (1 : Int32) (nI x + (1 : Int32)) (nI n) fr (z_fl (fun i => nI (z_dec n x i)) it n) u1 else _) = some r ∧ _
          rw [if_pos (by rfl), fX5_findNearest_L11_s, if_neg (show ¬ (1 : Int32) = 0 by decide)]
          by_cases e : ((1 : Int32) <<< (((2 : Int32) * nI n) &&& 31)) ≤ nI x + (1 : Int32)
          · rw [if_pos e]; exact ⟨_, rfl, hit⟩
          · rw [if_neg e]; exact ⟨_, rfl, hit⟩
    | succ d ih =>
      intro x fuel it u hx hf
      cases fuel with
      | zero => omega
      | succ fuel =>
        have hxl : x < 4 ^ n := by omega
        have hit : Rg (z_fl (fun i => nI (z_dec n x i)) it n) (z_dec n x) n := fun i hi => ⟨z_dec_lt n x i hi, z_fl_in hi⟩
        have ddl := z_df_le g (z_dec n x) n
        rw [fX5_findNearest_L11_s, p1, if_neg (nI_ge hxl (by omega)), if_pos (by rfl), bd_of (m_fn34 hn hr (by omega)), nI_1']
        show ∃ r, (if nI (z_df g (z_dec n x) n) = nI (z_fk kind g n) then (bd (fX5_fromKind (nI n) (z_fl (fun i => nI (z_dec n x i)) it n) u (nI kind)) fun r6 => _) else _) = some r ∧ _
        by_cases e : z_df g (z_dec n x) n = z_fk kind g n
        · obtain ⟨u1, hu1⟩ := m_fromKind h2 hn hk hit u
          have nz : ¬ z_fk kind (z_dec n x) n = 0 := fun q => by
            have := n3 (z_dec n x) (z_dec_lt n x) e q
            rw [z_dec_cd hxl] at this
            omega
          have hb : z_fk kind (z_dec n x) n < 2 ^ 31 := by
            obtain ⟨r, h', -, -, -, -, hN'⟩ := m_seek (nd := fi) (gd := fi) (c := fi) 0 0 h2 hn hk hit
            have a : z_df (z_dec n x) h' n = z_fk kind (z_dec n x) n := hN'.2.1
            have b := z_df_le (z_dec n x) h' n
            omega
          rw [if_pos (by rw [e]), bd_of hu1]
          show ∃ r, (if nI (z_fk kind (z_dec n x) n) = 0 then _ else fX5_findNearest_L11 fuel (nI kind) (nI (z_fk kind g n)) (0 : Int32) (nI (x + 1)) (nI n) fr (z_fl (fun i => nI (z_dec n x i)) it n) u1) = some r ∧ _
          rw [if_neg (show ¬ nI (z_fk kind (z_dec n x) n) = (0 : Int32) from fun q => nz ((nI_eq (b := 0) hb (by decide)).mp q))]
          exact ih (x + 1) fuel _ _ (by omega) (by omega)
        · rw [if_neg (fun q => e ((nI_eq (by omega) (by omega)).mp q))]
          exact ih (x + 1) fuel _ _ (by omega) (by omega)
  have htk : Rg (z_fl fr fi n) g n := fun i hi => by rw [z_fl_in hi]; exact hr i hi
  obtain ⟨u1, hu1⟩ := m_fromKind h2 hn hk htk fu
  have hrd : fX5_rowDistance (nI n) fr fi fu (nI kind) = some (nI (z_fk kind g n), z_fl fr fi n, u1) := by
    unfold fX5_rowDistance
    rw [bd_of (m_takeRow hn fr fi), bd_of hu1]
  obtain ⟨r, q1, q2⟩ := key (z_cd h n) 0 FU (z_fl fr fi n) u1 (by omega) (by unfold FU; omega)
  refine ⟨r.2.2.1, r.2.2.2, ?_, q2⟩
  unfold fX5_findNearest
  rw [bd_of hrd]
  exact (bd_of q1).trans rfl
theorem m_rowDistance {n kind : Nat} {fr fi fu : Nat → Int32} {g : Nat → Nat} (h2 : 2 ≤ n) (hn : n ≤ 8) (hk : kind < 4) (hr : Rg fr g n) : ∃ it' u', fX5_rowDistance (nI n) fr fi fu (nI kind) = some (nI (z_fk kind g n), it', u') := by
  have htk : Rg (z_fl fr fi n) g n := fun i hi => by rw [z_fl_in hi]; exact hr i hi
  obtain ⟨u1, hu1⟩ := m_fromKind h2 hn hk htk fu
  refine ⟨z_fl fr fi n, u1, ?_⟩
  unfold fX5_rowDistance
  rw [bd_of (m_takeRow hn fr fi), bd_of hu1]
