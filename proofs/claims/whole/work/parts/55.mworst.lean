/-! the worst row -/
def z_bin (n x i : Nat) : Nat := x / 2 ^ (n - 1 - i) % 2
theorem z_bin_D4 (n x : Nat) : D4 (z_bin n x) n := fun i _ => by have : x / 2 ^ (n - 1 - i) % 2 < 2 := Nat.mod_lt _ (by decide); unfold z_bin; omega
theorem z_fk_le {g : Nat → Nat} {n kind : Nat} (h2 : 2 ≤ n) (hn : n ≤ 8) (hk : kind < 4) (hg : D4 g n) : z_fk kind g n ≤ 8 := by
  obtain ⟨r, h', -, -, -, -, hN'⟩ := m_seek (f := fun i => nI (g i)) (nd := fun _ => 0) (gd := fun _ => 0) (c := fun _ => 0) 0 0 h2 hn hk (fun i hi => ⟨hg i hi, rfl⟩)
  have a : z_df g h' n = z_fk kind g n := hN'.2.1
  have b := z_df_le g h' n
  omega
theorem z_pass_le {g : Nat → Nat} {n kind : Nat} (h2 : 2 ≤ n) (hn : n ≤ 8) (hk : kind < 4) : z_pass g n kind ≤ z_look n kind := by
  rcases (show kind = 0 ∨ kind = 1 ∨ kind = 2 ∨ kind = 3 by omega) with rfl | rfl | rfl | rfl
  · show z_rp g n ≤ n * (n - 1) / 2
    rw [← z_look0 h2 hn]
    refine z_sum_mono (fun i _ => z_sum_mono (fun j _ => ?_))
    by_cases e : i < j
    · rw [if_pos e]; split <;> omega
    · rw [if_neg e, if_neg (fun q => e q.1)]; exact Nat.le_refl _
  · show z_mp g n ≤ n
    have := z_sum_le (g := fun i => if g i = g (n - 1 - i) then 1 else 0) (n := n) (m := 1) (fun i _ => by split <;> omega)
    unfold z_mp
    omega
  · show (if z_sum g n % 2 = 0 then 1 else 0) ≤ 1
    split <;> omega
  · show z_ap g n ≤ n * (n - 1)
    rw [← z_look3 h2 hn]
    refine z_sum_mono (fun i hi => ?_)
    rw [← z_around g h2 hn hi]
    refine z_sum_mono (fun j _ => ?_)
    by_cases e : 1 ≤ j
    · rw [if_pos e]; split <;> omega
    · rw [if_neg e, if_neg (fun q => e q.1)]; exact Nat.le_refl _
theorem z_look_in {n kind : Nat} (h2 : 2 ≤ n) (hn : n ≤ 8) (hk : kind < 4) : 1 ≤ z_look n kind ∧ z_look n kind ≤ 64 := by
  rcases (show kind = 0 ∨ kind = 1 ∨ kind = 2 ∨ kind = 3 by omega) with rfl | rfl | rfl | rfl <;> rcases (show n = 2 ∨ n = 3 ∨ n = 4 ∨ n = 5 ∨ n = 6 ∨ n = 7 ∨ n = 8 by omega) with rfl | rfl | rfl | rfl | rfl | rfl | rfl <;> decide
def z_w (kind d n : Nat) : Nat → Option Nat
  | 0 => none
  | k + 1 => if z_fk kind (z_bin n k) n < d then z_w kind d n k else match z_w kind d n k with
    | none => some k
    | some b => if z_pass (z_bin n b) n kind < z_pass (z_bin n k) n kind then some k else some b
theorem z_w_s (kind d n k : Nat) : z_w kind d n (k + 1) = if z_fk kind (z_bin n k) n < d then z_w kind d n k else match z_w kind d n k with
    | none => some k
    | some b => if z_pass (z_bin n b) n kind < z_pass (z_bin n k) n kind then some k else some b := rfl
theorem z_w_lt {kind d n : Nat} : ∀ {k b : Nat}, z_w kind d n k = some b → b < k := by
  intro k
  induction k with
  | zero => intro b h; cases h
  | succ k ih =>
    intro b h
    rw [z_w_s] at h
    split at h
    · have := ih h; omega
    · cases hz : z_w kind d n k with
      | none => rw [hz] at h; cases h; omega
      | some c =>
        rw [hz] at h
        have hc := ih hz
        by_cases q : z_pass (z_bin n c) n kind < z_pass (z_bin n k) n kind
        · simp [q] at h; omega
        · simp [q] at h; omega
def z_wc : Option Nat → Int32
  | none => -1
  | some b => nI b
theorem z_pow2 : ∀ n, n < 9 → ((1 : Int32) <<< (nI n &&& 31)) = nI (2 ^ n) ∧ 2 ^ n ≤ 256 := by decide +kernel
theorem m_spell {n x : Nat} (hn : n ≤ 8) (hx : x < 2 ^ 31) (s : Int32) (td : Nat → Int32) : fX2_spell s td (nI x) (nI n) = some (nI n, z_fl (fun i => nI (z_bin n x i)) td n) := by
  have hh : fX2_spell_L7 FU (nI x) (nI 0) (nI n) (z_fl (fun i => nI (z_bin n x i)) td 0) = some (nI n, z_fl (fun i => nI (z_bin n x i)) td n) :=
    lp_FU (fun fuel k => fX2_spell_L7 fuel (nI x) (nI k) (nI n) (z_fl (fun i => nI (z_bin n x i)) td k)) n _ (by omega) 0 (Nat.zero_le _)
    (by
      intro k fuel hk
      have c : ¬ nI n ≤ nI k := nI_ge hk (by omega)
      try dsimp only
      rw [fX2_spell_L7_s, if_neg c, nI_m1' (by omega), nI_sub' (by omega), z_bit hx (by omega), gin_nI (by omega) (by decide), nI_clamp (by omega), nI_1']
      exact congrArg (fun z => fX2_spell_L7 fuel (nI x) (nI (k + 1)) (nI n) z) (z_fl_s' _ _ _ _ rfl))
    (by
      intro fuel
      try dsimp only
      rw [fX2_spell_L7_s, if_pos (nI_le (Nat.le_refl n) (by omega))])
  rw [z_fl_0] at hh
  unfold fX2_spell
  exact (bd_of hh).trans rfl
theorem Rg_bin {n x : Nat} (a : Nat → Int32) : Rg (z_fl (fun i => nI (z_bin n x i)) a n) (z_bin n x) n := fun i hi => ⟨z_bin_D4 n x i hi, z_fl_in hi⟩
def z_wp (kind n : Nat) : Option Nat → Int32
  | none => -1
  | some b => nI (z_pass (z_bin n b) n kind)
theorem z_nm1 {b : Nat} (hb : b < 2 ^ 31) : ¬ nI b = (-1 : Int32) := fun q => nI_pos hb (by rw [q]; decide)
theorem z_nlem1 {b : Nat} (hb : b < 2 ^ 31) : ¬ nI b ≤ (-1 : Int32) := fun q => by
  have h1 := Int32.le_iff_toInt_le.mp q
  rw [nI_toInt hb] at h1
  have : ((-1 : Int32)).toInt = -1 := by decide
  omega
theorem m_worstCode {n kind d : Nat} {td nd gd c : Nat → Int32} (ts ns gs : Int32) (h2 : 2 ≤ n) (hn : n ≤ 8) (hk : kind < 4) (hd : d ≤ 8) : ∃ r : Int32 × Int32 × (Nat → Int32) × Int32 × (Nat → Int32) × Int32 × (Nat → Int32) × (Nat → Int32), fX4_worstCode (nI n) ts td ns nd gs gd c (nI kind) (nI d) = some r ∧ r.1 = z_wc (z_w kind d n (2 ^ n)) := by
  obtain ⟨p1, p2⟩ := z_pow2 n (by omega)
  have key : ∀ (m k fuel : Nat) (ts : Int32) (td : Nat → Int32) (ns : Int32) (nd : Nat → Int32) (gs : Int32) (gd c : Nat → Int32), k + m = 2 ^ n → m < fuel → ∃ r : Int32 × Int32 × Int32 × Int32 × (Nat → Int32) × Int32 × (Nat → Int32) × Int32 × (Nat → Int32) × (Nat → Int32), fX4_worstCode_L8 fuel (nI kind) (nI d) (z_wc (z_w kind d n k)) (z_wp kind n (z_w kind d n k)) (nI k) (nI n) ts td ns nd gs gd c = some r ∧ r.1 = z_wc (z_w kind d n (2 ^ n)) := by
    intro m
    induction m with
    | zero =>
      intro k fuel ts td ns nd gs gd c hkm hf
      have ek : k = 2 ^ n := by omega
      cases fuel with
      | zero => omega
      | succ fuel =>
        rw [fX4_worstCode_L8_s, p1, if_pos (nI_le (by omega) (by omega))]
        exact ⟨_, rfl, by rw [ek]⟩
    | succ m ih =>
      intro k fuel ts td ns nd gs gd c hkm hf
      cases fuel with
      | zero => omega
      | succ fuel =>
        have hR := Rg_bin (n := n) (x := k) td
        obtain ⟨r, h', hs, e1, -, -, -⟩ := m_seek (nd := nd) (gd := gd) (c := c) ns gs h2 hn hk hR
        have lD := z_fk_le h2 hn hk (z_bin_D4 n k)
        have lP := z_pass_le (g := z_bin n k) h2 hn hk
        have lL := (z_look_in h2 hn hk).2
        have es := z_w_s kind d n k
        rw [fX4_worstCode_L8_s, p1, if_neg (nI_ge (by omega) (by omega)), bd_of (m_spell hn (by omega) ts td)]
        show ∃ r, (bd (fX2_passing (nI n) (z_fl (fun i => nI (z_bin n k i)) td n) (nI kind)) fun r2 => _) = some r ∧ _
        rw [bd_of (m_passing hn hk hR), nI_1']
        have seekrow : (bd (fX0_seek ns nd gs gd c (nI n) (z_fl (fun i => nI (z_bin n k i)) td n) (nI kind)) fun r3 => if r3.1 < nI d then (fX4_worstCode_L8 fuel (nI kind) (nI d) (z_wc (z_w kind d n k)) (z_wp kind n (z_w kind d n k)) (nI (k + 1)) (nI n) (nI n) (z_fl (fun i => nI (z_bin n k i)) td n) r3.2.1 r3.2.2.1 r3.2.2.2.1 r3.2.2.2.2.1 r3.2.2.2.2.2) else (fX4_worstCode_L8 fuel (nI kind) (nI d) (nI k) (nI (z_pass (z_bin n k) n kind)) (nI (k + 1)) (nI n) (nI n) (z_fl (fun i => nI (z_bin n k i)) td n) r3.2.1 r3.2.2.1 r3.2.2.2.1 r3.2.2.2.2.1 r3.2.2.2.2.2)) = if nI (z_fk kind (z_bin n k) n) < nI d then (fX4_worstCode_L8 fuel (nI kind) (nI d) (z_wc (z_w kind d n k)) (z_wp kind n (z_w kind d n k)) (nI (k + 1)) (nI n) (nI n) (z_fl (fun i => nI (z_bin n k i)) td n) r.2.1 r.2.2.1 r.2.2.2.1 r.2.2.2.2.1 r.2.2.2.2.2) else (fX4_worstCode_L8 fuel (nI kind) (nI d) (nI k) (nI (z_pass (z_bin n k) n kind)) (nI (k + 1)) (nI n) (nI n) (z_fl (fun i => nI (z_bin n k i)) td n) r.2.1 r.2.2.1 r.2.2.2.1 r.2.2.2.2.1 r.2.2.2.2.2) := by
          rw [bd_of hs, e1]
        show ∃ r, (if nI (z_pass (z_bin n k) n kind) ≤ z_wp kind n (z_w kind d n k) then (fX4_worstCode_L8 fuel (nI kind) (nI d) (z_wc (z_w kind d n k)) (z_wp kind n (z_w kind d n k)) (nI (k + 1)) (nI n) (nI n) (z_fl (fun i => nI (z_bin n k i)) td n) ns nd gs gd c) else (bd (fX0_seek ns nd gs gd c (nI n) (z_fl (fun i => nI (z_bin n k i)) td n) (nI kind)) fun r3 => if r3.1 < nI d then (fX4_worstCode_L8 fuel (nI kind) (nI d) (z_wc (z_w kind d n k)) (z_wp kind n (z_w kind d n k)) (nI (k + 1)) (nI n) (nI n) (z_fl (fun i => nI (z_bin n k i)) td n) r3.2.1 r3.2.2.1 r3.2.2.2.1 r3.2.2.2.2.1 r3.2.2.2.2.2) else (fX4_worstCode_L8 fuel (nI kind) (nI d) (nI k) (nI (z_pass (z_bin n k) n kind)) (nI (k + 1)) (nI n) (nI n) (z_fl (fun i => nI (z_bin n k i)) td n) r3.2.1 r3.2.2.1 r3.2.2.2.1 r3.2.2.2.2.1 r3.2.2.2.2.2))) = some r ∧ _
        rw [seekrow]
        have go := ih (k + 1) fuel
        rw [es] at go
        by_cases qD : z_fk kind (z_bin n k) n < d
        · rw [if_pos qD] at go
          rw [if_pos (nI_lt qD (by omega))]
          split
          · exact go _ _ _ _ _ _ _ (by omega) (by omega)
          · exact go _ _ _ _ _ _ _ (by omega) (by omega)
        · rw [if_neg qD] at go
          rw [if_neg (nI_nlt (by omega) (by omega))]
          cases hz : z_w kind d n k with
          | none =>
            rw [hz] at go
            rw [if_neg (show ¬ nI (z_pass (z_bin n k) n kind) ≤ z_wp kind n none from z_nlem1 (by omega))]
            exact go _ _ _ _ _ _ _ (by omega) (by omega)
          | some b =>
            rw [hz] at go
            have lPb := z_pass_le (g := z_bin n b) h2 hn hk
            by_cases qP : z_pass (z_bin n b) n kind < z_pass (z_bin n k) n kind
            · have go2 := go
              simp only [qP, if_true] at go2
              rw [if_neg (show ¬ nI (z_pass (z_bin n k) n kind) ≤ z_wp kind n (some b) from nI_ge qP (by omega))]
              exact go2 _ _ _ _ _ _ _ (by omega) (by omega)
            · have go2 := go
              simp only [qP, if_false] at go2
              rw [if_pos (show nI (z_pass (z_bin n k) n kind) ≤ z_wp kind n (some b) from nI_le (by omega) (by omega))]
              exact go2 _ _ _ _ _ _ _ (by omega) (by omega)
  obtain ⟨r, q1, q2⟩ := key (2 ^ n) 0 FU ts td ns nd gs gd c (by omega) (by unfold FU; omega)
  refine ⟨(r.1, r.2.2.2.1, r.2.2.2.2.1, r.2.2.2.2.2.1, r.2.2.2.2.2.2.1, r.2.2.2.2.2.2.2.1, r.2.2.2.2.2.2.2.2.1, r.2.2.2.2.2.2.2.2.2), ?_, q2⟩
  unfold fX4_worstCode
  exact (bd_of q1).trans rfl
theorem m_fw19 {n x : Nat} (hn : n ≤ 8) (hx : x < 2 ^ 31) (fi : Nat → Int32) : fX5_findWorst_L19 FU (nI x) (0 : Int32) (nI n) fi = some (nI n, z_fl (fun i => nI (z_bin n x i)) fi n) := by
  have hh : fX5_findWorst_L19 FU (nI x) (nI 0) (nI n) (z_fl (fun i => nI (z_bin n x i)) fi 0) = some (nI n, z_fl (fun i => nI (z_bin n x i)) fi n) :=
    lp_FU (fun fuel k => fX5_findWorst_L19 fuel (nI x) (nI k) (nI n) (z_fl (fun i => nI (z_bin n x i)) fi k)) n _ (by omega) 0 (Nat.zero_le _)
    (by
      intro k fuel hk
      have c : ¬ nI n ≤ nI k := nI_ge hk (by omega)
      try dsimp only
      rw [fX5_findWorst_L19_s, if_neg c, nI_m1' (by omega), nI_sub' (by omega), z_bit hx (by omega), gin_nI (by omega) (by decide), nI_clamp (by omega), nI_1']
      exact congrArg (fun z => fX5_findWorst_L19 fuel (nI x) (nI (k + 1)) (nI n) z) (z_fl_s' _ _ _ _ rfl))
    (by
      intro fuel
      try dsimp only
      rw [fX5_findWorst_L19_s, if_pos (nI_le (Nat.le_refl n) (by omega))])
  rw [z_fl_0] at hh
  exact hh
theorem m_findWorst {n kind d : Nat} {fi fu : Nat → Int32} (A B C E : Int64) (h2 : 2 ≤ n) (hn : n ≤ 8) (hk : kind < 4) (hd : d ≤ 8) : ∃ r : Int32 × Int64 × Int64 × Int64 × Int64 × (Nat → Int32) × (Nat → Int32), fX5_findWorst (nI n) A B C E fi fu (nI kind) (nI d) = some r ∧ r.1 = z_wc (z_w kind d n (2 ^ n)) ∧ ∀ b, z_w kind d n (2 ^ n) = some b → r.2.2.2.1 = lN (z_pass (z_bin n b) n kind) ∧ r.2.2.2.2.1 = lN (z_look n kind) := by
  obtain ⟨p1, p2⟩ := z_pow2 n (by omega)
  have key : ∀ (m k fuel : Nat) (A B C E : Int64) (fi fu : Nat → Int32), k + m = 2 ^ n → m < fuel → (∀ b, z_w kind d n k = some b → C = lN (z_pass (z_bin n b) n kind) ∧ E = lN (z_look n kind)) → ∃ r : Int32 × Int32 × Int64 × Int64 × Int64 × Int64 × (Nat → Int32) × (Nat → Int32), fX5_findWorst_L5 fuel (nI kind) (nI d) (z_wc (z_w kind d n k)) (nI k) (nI n) A B C E fi fu = some r ∧ r.1 = z_wc (z_w kind d n (2 ^ n)) ∧ ∀ b, z_w kind d n (2 ^ n) = some b → r.2.2.2.2.1 = lN (z_pass (z_bin n b) n kind) ∧ r.2.2.2.2.2.1 = lN (z_look n kind) := by
    intro m
    induction m with
    | zero =>
      intro k fuel A B C E fi fu hkm hf hb
      have ek : k = 2 ^ n := by omega
      cases fuel with
      | zero => omega
      | succ fuel =>
        rw [fX5_findWorst_L5_s, p1, if_pos (nI_le (by omega) (by omega))]
        exact ⟨_, rfl, by rw [ek], fun b h => hb b (by rw [ek]; exact h)⟩
    | succ m ih =>
      intro k fuel A B C E fi fu hkm hf hb
      cases fuel with
      | zero => omega
      | succ fuel =>
        have hR := Rg_bin (n := n) (x := k) fi
        obtain ⟨u1, hu1⟩ := m_fromKind h2 hn hk hR fu
        have lD := z_fk_le h2 hn hk (z_bin_D4 n k)
        have lP := z_pass_le (g := z_bin n k) h2 hn hk
        have lL := z_look_in h2 hn hk
        have es := z_w_s kind d n k
        rw [fX5_findWorst_L5_s, p1, if_neg (nI_ge (by omega) (by omega)), bd_of (m_fw19 hn (by omega) fi)]
        show ∃ r, (bd (fX5_fromKind (nI n) (z_fl (fun i => nI (z_bin n k i)) fi n) fu (nI kind)) fun r4 => _) = some r ∧ _
        rw [bd_of hu1, nI_1']
        show ∃ r, (if nI (z_fk kind (z_bin n k) n) < nI d then _ else _) = some r ∧ _
        have go := ih (k + 1) fuel
        rw [es] at go
        by_cases qD : z_fk kind (z_bin n k) n < d
        · rw [if_pos qD] at go
          rw [if_pos (nI_lt qD (by omega))]
          exact go _ _ _ _ _ _ (by omega) (by omega) hb
        · rw [if_neg qD] at go
          rw [if_neg (nI_nlt (by omega) (by omega))]
          show ∃ r, (bd (fX5_countRow (nI n) A B (z_fl (fun i => nI (z_bin n k i)) fi n) (nI kind)) fun r5 => _) = some r ∧ _
          rw [bd_of (m_countRow h2 hn hk hR A B)]
          cases hz : z_w kind d n k with
          | none =>
            rw [hz] at go
            rw [if_pos (show z_wc none = (-1 : Int32) from rfl)]
            exact go _ _ _ _ _ _ (by omega) (by omega) (fun b h => by cases h; exact ⟨rfl, rfl⟩)
          | some b =>
            rw [hz] at go
            have lb := z_w_lt hz
            have lPb := z_pass_le (g := z_bin n b) h2 hn hk
            obtain ⟨hC, hE⟩ := hb b hz
            have m1 : z_pass (z_bin n k) n kind * z_look n kind ≤ 64 * 64 := Nat.mul_le_mul (by omega) lL.2
            have m2 : z_pass (z_bin n b) n kind * z_look n kind ≤ 64 * 64 := Nat.mul_le_mul (by omega) lL.2
            rw [if_neg (show ¬ z_wc (some b) = (-1 : Int32) from z_nm1 (by omega))]
            show ∃ r, (if lg_cmp (lN (z_pass (z_bin n k) n kind) * E) (C * lN (z_look n kind)) ≤ 0 then _ else _) = some r ∧ _
            rw [hC, hE, lN_mul, lN_mul]
            by_cases qP : z_pass (z_bin n b) n kind < z_pass (z_bin n k) n kind
            · have go2 := go
              simp only [qP, if_true] at go2
              have nle : ¬ z_pass (z_bin n k) n kind * z_look n kind ≤ z_pass (z_bin n b) n kind * z_look n kind := fun q => by
                have := Nat.le_of_mul_le_mul_right q (by omega)
                omega
              rw [if_neg (fun q => nle ((pk_lLE (by omega) (by omega)).mp ((lg_cmp_le _ _).mp q)))]
              exact go2 _ _ _ _ _ _ (by omega) (by omega) (fun b h => by cases h; exact ⟨rfl, rfl⟩)
            · have go2 := go
              simp only [qP, if_false] at go2
              have le : z_pass (z_bin n k) n kind * z_look n kind ≤ z_pass (z_bin n b) n kind * z_look n kind := Nat.mul_le_mul_right _ (by omega)
              rw [if_pos ((lg_cmp_le _ _).mpr ((pk_lLE (by omega) (by omega)).mpr le))]
              exact go2 _ _ _ _ _ _ (by omega) (by omega) (fun b' h => by cases h; exact ⟨rfl, rfl⟩)
  obtain ⟨r, q1, q2, q3⟩ := key (2 ^ n) 0 FU A B C E fi fu (by omega) (by unfold FU; omega) (fun b h => by cases h)
  refine ⟨(r.1, r.2.2.1, r.2.2.2.1, r.2.2.2.2.1, r.2.2.2.2.2.1, r.2.2.2.2.2.2.1, r.2.2.2.2.2.2.2), ?_, q2, q3⟩
  unfold fX5_findWorst
  exact (bd_of q1).trans rfl
