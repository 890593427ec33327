/-! round rows: the program's search, the reference's shifts -/
theorem z_sum_cut {f : Nat → Nat} {m k : Nat} (hm : m ≤ k) (h : ∀ t, m ≤ t → t < k → f t = 0) : z_sum f k = z_sum f m := by
  induction k with
  | zero =>
    have : m = 0 := by omega
    subst this
    rfl
  | succ k ih =>
    by_cases e : m = k + 1
    · subst e; rfl
    · rw [z_sum_s, ih (by omega) (fun t h1 h2 => h t h1 (by omega)), h k (by omega) (by omega)]
      rfl
theorem m_commonest {f : Nat → Int32} {g : Nat → Nat} {n p r : Nat} (hn : n ≤ 8) (hf : Rg f g n) (h : Dv n p) (hr : r < p) : fX0_commonest (nI n) f (nI r) (nI p) = some (nI (z_axk (z_ct g n p r) 4)) := by
  have hp8 : p < 8 := by have := h.2.1; omega
  have ect : ∀ v, z_sum (fun t => if r + t * p < n ∧ g (r + t * p) = v then 1 else 0) 8 = z_ct g n p r v := by
    intro v
    rw [z_sum_cut (m := n / p) (z_dvpos hn h).2 (fun t h1 h2 => if_neg (fun q => by have := (z_in (t := t) hn h hr).mpr q.1; omega))]
    refine z_sum_congr (fun t ht => ?_)
    have hlt := (z_in (t := t) hn h hr).mp ht
    by_cases e : g (r + t * p) = v
    · rw [if_pos ⟨hlt, e⟩, if_pos e]
    · rw [if_neg (fun q => e q.2), if_neg e]
  have inner : ∀ v, v < 4 → fX0_commonest_L20 FU (nI r) (nI p) (nI v) (nI 0) (nI 0) (nI n) f = some (nI (z_ct g n p r v), nI 8) := by
    intro v hv
    rw [← ect v]
    exact lp_FU (fun fuel k => fX0_commonest_L20 fuel (nI r) (nI p) (nI v) (nI (z_sum (fun t => if r + t * p < n ∧ g (r + t * p) = v then 1 else 0) k)) (nI k) (nI n) f) 8 _ (by decide) 0 (by decide)
      (by
        intro k fuel hk
        have c : ¬ (8 : Int32) ≤ nI k := nI_ge hk (by decide)
        have hkp : k * p ≤ 7 * 7 := Nat.mul_le_mul (by omega) (by omega)
        have ei : nI r + nI k * nI p = nI (r + k * p) := by rw [pk_mul, nI_add]
        try dsimp only
        rw [fX0_commonest_L20_s, if_neg c, ei, nI_1', nI_1', z_sum_s]
        by_cases e : r + k * p < n
        · have b1 := hf _ e
          rw [if_neg (nI_ge e (by omega)), gin_nI (by omega) (by decide), nI_clamp (by omega), b1.2]
          by_cases e2 : g (r + k * p) = v
          · rw [if_pos (by rw [e2]), if_pos ⟨e, e2⟩]
          · rw [if_neg (fun q => e2 ((nI_eq (by omega) (by omega)).mp q)), if_neg (fun q => e2 q.2)]; rfl
        · rw [if_pos (nI_le (by omega) (by omega)), if_neg (fun q => e q.1)]; rfl)
      (by
        intro fuel
        try dsimp only
        rw [fX0_commonest_L20_s, if_pos (by decide)])
  have lc : ∀ v, z_ct g n p r v ≤ 8 := fun v => by have := z_ct_le g n p r v; have := (z_dvpos hn h).2; omega
  have hh : fX0_commonest_L8 FU (nI r) (nI p) (nI (z_axk (z_ct g n p r) 0)) (nI (z_mxk (z_ct g n p r) 0)) (nI 0) (nI n) f = some (nI (z_axk (z_ct g n p r) 4), nI (z_mxk (z_ct g n p r) 4), nI 4) :=
    lp_FU (fun fuel k => fX0_commonest_L8 fuel (nI r) (nI p) (nI (z_axk (z_ct g n p r) k)) (nI (z_mxk (z_ct g n p r) k)) (nI k) (nI n) f) 4 _ (by decide) 0 (by decide)
    (by
      intro k fuel hk
      have c : ¬ (4 : Int32) ≤ nI k := nI_ge hk (by decide)
      have lm : z_mxk (z_ct g n p r) k ≤ 8 := z_mxk_le (fun v _ => lc v)
      have lk := lc k
      try dsimp only
      rw [fX0_commonest_L8_s, if_neg c, show (0 : Int32) = nI 0 from rfl, bd_of (inner k hk), nI_1', z_mxk_s, z_axk_s]
      show (if nI (z_ct g n p r k) ≤ nI (z_mxk (z_ct g n p r) k) then _ else _) = _
      by_cases e : z_ct g n p r k ≤ z_mxk (z_ct g n p r) k
      · rw [if_pos (nI_le e (by omega)), if_pos e, if_pos e]
      · rw [if_neg (nI_ge (by omega) (by omega)), if_neg e, if_neg e])
    (by
      intro fuel
      try dsimp only
      rw [fX0_commonest_L8_s, if_pos (by decide)])
  unfold fX0_commonest
  exact (bd_of hh).trans rfl
theorem m_guessPeriod {f gd : Nat → Int32} {g : Nat → Nat} {n p : Nat} (s : Int32) (hn : n ≤ 8) (hf : Rg f g n) (h : Dv n p) : fX0_guessPeriod s gd (nI n) f (nI p) = some (nI n, z_fl (fun i => nI (z_gs g n p i)) (z_fl f gd 8) n) := by
  have hp8 : p < 8 := by have := h.2.1; omega
  have hh : fX0_guessPeriod_L10 FU (nI p) (nI 0) (z_fl (fun i => nI (z_gs g n p i)) (z_fl f gd 8) 0) (nI n) f = some (nI n, z_fl (fun i => nI (z_gs g n p i)) (z_fl f gd 8) n) :=
    lp_FU (fun fuel k => fX0_guessPeriod_L10 fuel (nI p) (nI k) (z_fl (fun i => nI (z_gs g n p i)) (z_fl f gd 8) k) (nI n) f) n _ (by omega) 0 (by omega)
    (by
      intro k fuel hk
      have c : ¬ nI n ≤ nI k := nI_ge hk (by omega)
      try dsimp only
      rw [fX0_guessPeriod_L10_s, if_neg c, nI_1']
      by_cases e : p ≤ k
      · have h1 := h.1
        have em : z_gs g n p (k - p) = z_gs g n p k := by unfold z_gs; rw [Nat.mod_eq_sub_mod e]
        rw [if_pos (nI_le e (by omega)), nI_sub' e, gin_nI (by omega) (by decide), gin_nI (by omega) (by decide), nI_clamp (by omega), nI_clamp (by omega), z_fl_in (show k - p < k by omega)]
        exact congrArg (fun z => fX0_guessPeriod_L10 fuel (nI p) (nI (k + 1)) z (nI n) f) (z_fl_s' _ _ _ _ (congrArg nI em))
      · have em : z_gs g n p k = z_axk (z_ct g n p k) 4 := by unfold z_gs; rw [Nat.mod_eq_of_lt (by omega)]
        rw [if_neg (nI_ge (by omega) (by omega)), bd_of (m_commonest hn hf h (by omega)), gin_nI (by omega) (by decide), nI_clamp (by omega)]
        exact congrArg (fun z => fX0_guessPeriod_L10 fuel (nI p) (nI (k + 1)) z (nI n) f) (z_fl_s' _ _ _ _ (congrArg nI em.symm)))
    (by
      intro fuel
      try dsimp only
      rw [fX0_guessPeriod_L10_s, if_pos (nI_le (Nat.le_refl n) (by omega))])
  rw [z_fl_0] at hh
  unfold fX0_guessPeriod
  rw [m_become, bd_s]
  exact (bd_of hh).trans rfl
theorem z_pcost_le (g : Nat → Nat) {n p : Nat} (hn : n ≤ 8) (h : Dv n p) (hg : D4 g n) : z_pcost g n p ≤ 8 := by
  have := z_df_le g (z_gs g n p) n
  rw [z_gs_df hn h hg] at this
  omega
theorem m_makeRound {f nd gd : Nat → Int32} {g : Nat → Nat} {n : Nat} (s s2 : Int32) (h2 : 2 ≤ n) (hn : n ≤ 8) (hf : Rg f g n) : ∃ (r : Int32 × (Nat → Int32) × Int32 × (Nat → Int32)) (h : Nat → Nat) (fw : Nat), fX0_makeRound s nd s2 gd (nI n) f = some r ∧ Rg r.2.1 h n ∧ MR g n (n - 1) fw h ∧ r.1 = nI n := by
  have hg : D4 g n := fun i hi => (hf i hi).1
  have guess : ∀ (p : Nat) (x : Nat → Int32), Rg (z_fl (fun i => nI (z_gs g n p i)) x n) (z_gs g n p) n := fun p x i hi => ⟨z_gs_lt g n p i, z_fl_in hi⟩
  -- from the second period on
  have key : ∀ (d k fuel fw : Nat) (near gs : Nat → Int32) (s1 : Int32) (h : Nat → Nat), 1 ≤ k → k + 1 + d = n → d < fuel → fw ≤ 8 → Rg near h n → MR g n k fw h → ∃ (r : Int32 × Int32 × Int32 × (Nat → Int32) × Int32 × (Nat → Int32)) (h' : Nat → Nat) (fw' : Nat), fX0_makeRound_L5 fuel (nI fw) (nI (k + 1)) (nI n) near s1 gs (nI n) f = some r ∧ Rg r.2.2.2.1 h' n ∧ MR g n (n - 1) fw' h' ∧ r.2.2.1 = nI n := by
    intro d
    induction d with
    | zero =>
      intro k fuel fw near gs s1 h hk1 hk hfu hfw hR hM
      have ek : k + 1 = n := by omega
      cases fuel with
      | zero => omega
      | succ fuel =>
        rw [fX0_makeRound_L5_s, if_pos (nI_le (by omega) (by omega))]
        refine ⟨_, h, fw, rfl, hR, ?_, rfl⟩
        rw [show n - 1 = k by omega]
        exact hM
    | succ d ih =>
      intro k fuel fw near gs s1 h hk1 hk hfu hfw hR hM
      cases fuel with
      | zero => omega
      | succ fuel =>
        have c : ¬ nI n ≤ nI (k + 1) := nI_ge (by omega) (by omega)
        have hh4 : D4 h n := fun i hi => (hR i hi).1
        rw [fX0_makeRound_L5_s, if_neg c, gnz_of (nI_ne0 (by omega) (by omega)), pk_rem (by omega) (by omega) (by omega)]
        by_cases e : n % (k + 1) = 0
        · have hD : Dv n (k + 1) := ⟨by omega, by omega, e⟩
          have lp := z_pcost_le g hn hD hg
          have hdf : fX2_differing (nI n) f (z_fl (fun i => nI (z_gs g n (k + 1) i)) (z_fl f gs 8) n) = some (nI (z_pcost g n (k + 1))) := by
            rw [m_differing hn hf (guess (k + 1) _), z_gs_df hn hD hg]
          have hG4 : D4 (z_gs g n (k + 1)) n := fun i _ => z_gs_lt g n (k + 1) i
          have become : ∀ x : Nat → Int32, Rg (z_fl (z_fl (fun i => nI (z_gs g n (k + 1) i)) (z_fl f gs 8) n) x 8) (z_gs g n (k + 1)) n := fun x i hi => by
            rw [z_fl_in (show i < 8 by omega)]
            exact guess (k + 1) _ i hi
          rw [e, if_pos (by rfl), bd_of (m_guessPeriod s1 hn hf hD)]
          show ∃ r h' fw', (bd (fX2_differing (nI n) f (z_fl (fun i => nI (z_gs g n (k + 1) i)) (z_fl f gs 8) n)) fun r2 => _) = some r ∧ _
          rw [bd_of hdf]
          by_cases q1 : z_pcost g n (k + 1) < fw
          · rw [if_pos (nI_lt q1 (by omega)), m_become, bd_s, nI_1']
            refine ih (k + 1) fuel _ _ _ _ (z_gs g n (k + 1)) (by omega) (by omega) (by omega) lp (become near) ?_
            refine ⟨⟨k + 1, hD, Nat.le_refl _, fun i _ => rfl, rfl⟩, fun p hp hpk => ?_⟩
            by_cases ep : p = k + 1
            · subst ep; exact ⟨Nat.le_refl _, fun _ => Nat.le_refl _⟩
            · have := (hM.2 p hp (by omega)).1
              exact ⟨by omega, fun z => by omega⟩
          · rw [if_neg (nI_nlt (by omega) (by omega))]
            by_cases q2 : z_pcost g n (k + 1) = fw
            · rw [if_pos (by rw [q2])]
              show ∃ r h' fw', (bd (fX2_isAheadOf (nI n) (z_fl (fun i => nI (z_gs g n (k + 1) i)) (z_fl f gs 8) n) near) fun r4 => _) = some r ∧ _
              rw [bd_of (m_isAheadOf hn (guess (k + 1) _) hR)]
              by_cases q3 : z_lt (z_gs g n (k + 1)) h n = true
              · have hlt := (z_lt_cd hG4 hh4).mp q3
                rw [if_neg (show ¬ (if z_lt (z_gs g n (k + 1)) h n = true then (1 : Int32) else 0) = 0 by rw [if_pos q3]; decide), m_become, bd_s, nI_1']
                refine ih (k + 1) fuel _ _ _ _ (z_gs g n (k + 1)) (by omega) (by omega) (by omega) lp (become near) ?_
                refine ⟨⟨k + 1, hD, Nat.le_refl _, fun i _ => rfl, rfl⟩, fun p hp hpk => ?_⟩
                by_cases ep : p = k + 1
                · subst ep; exact ⟨Nat.le_refl _, fun _ => Nat.le_refl _⟩
                · have := hM.2 p hp (by omega)
                  refine ⟨by omega, fun z => ?_⟩
                  have := this.2 (by omega)
                  omega
              · rw [if_pos (show (if z_lt (z_gs g n (k + 1)) h n = true then (1 : Int32) else 0) = 0 by rw [if_neg q3]), nI_1']
                refine ih (k + 1) fuel fw near _ _ h (by omega) (by omega) (by omega) hfw hR ?_
                obtain ⟨⟨p0, a1, a2, a3, a4⟩, a5⟩ := hM
                refine ⟨⟨p0, a1, by omega, a3, a4⟩, fun p hp hpk => ?_⟩
                by_cases ep : p = k + 1
                · subst ep
                  refine ⟨by omega, fun _ => ?_⟩
                  rcases Nat.lt_or_ge (z_cd (z_gs g n (k + 1)) n) (z_cd h n) with w | w
                  · exact absurd ((z_lt_cd hG4 hh4).mpr w) q3
                  · exact w
                · exact a5 p hp (by omega)
            · rw [if_neg (fun z => q2 ((nI_eq (by omega) (by omega)).mp z)), nI_1']
              refine ih (k + 1) fuel fw near _ _ h (by omega) (by omega) (by omega) hfw hR ?_
              obtain ⟨⟨p0, a1, a2, a3, a4⟩, a5⟩ := hM
              refine ⟨⟨p0, a1, by omega, a3, a4⟩, fun p hp hpk => ?_⟩
              by_cases ep : p = k + 1
              · subst ep; exact ⟨by omega, fun z => by omega⟩
              · exact a5 p hp (by omega)
        · rw [if_neg (show ¬ nI (n % (k + 1)) = (0 : Int32) from fun z => e ((nI_eq (b := 0) (by have := Nat.mod_lt n (show 0 < k + 1 by omega); omega) (by decide)).mp z)), nI_1']
          refine ih (k + 1) fuel fw near gs s1 h (by omega) (by omega) (by omega) hfw hR ?_
          obtain ⟨⟨p0, a1, a2, a3, a4⟩, a5⟩ := hM
          refine ⟨⟨p0, a1, by omega, a3, a4⟩, fun p hp hpk => ?_⟩
          by_cases ep : p = k + 1
          · subst ep; exact absurd hp.2.2 e
          · exact a5 p hp (by omega)
  -- the first period
  have hD : Dv n 1 := ⟨by omega, by omega, Nat.mod_one n⟩
  have lp := z_pcost_le g hn hD hg
  have hdf : fX2_differing (nI n) f (z_fl (fun i => nI (z_gs g n 1 i)) (z_fl f gd 8) n) = some (nI (z_pcost g n 1)) := by
    rw [m_differing hn hf (guess 1 _), z_gs_df hn hD hg]
  have first : ∃ (r : Int32 × Int32 × Int32 × (Nat → Int32) × Int32 × (Nat → Int32)) (h' : Nat → Nat) (fw' : Nat), fX0_makeRound_L5 FU (nI 9) (nI 1) s nd s2 gd (nI n) f = some r ∧ Rg r.2.2.2.1 h' n ∧ MR g n (n - 1) fw' h' ∧ r.2.2.1 = nI n := by
    rw [show FU = 69999 + 1 from rfl, fX0_makeRound_L5_s, if_neg (show ¬ nI n ≤ nI 1 from nI_ge (by omega) (by omega)), gnz_of (nI_ne0 (by decide) (by decide)), pk_rem (by omega) (by decide) (by decide), Nat.mod_one, if_pos (by rfl), bd_of (m_guessPeriod s2 hn hf hD)]
    show ∃ r h' fw', (bd (fX2_differing (nI n) f (z_fl (fun i => nI (z_gs g n 1 i)) (z_fl f gd 8) n)) fun r2 => _) = some r ∧ _
    rw [bd_of hdf, if_pos (nI_lt (by omega) (by omega)), m_become, bd_s, nI_1']
    refine key (n - 2) 1 69999 _ _ _ _ (z_gs g n 1) (Nat.le_refl _) (by omega) (by omega) lp (fun i hi => by show z_gs g n 1 i < 4 ∧ z_fl (z_fl (fun i => nI (z_gs g n 1 i)) (z_fl f gd 8) n) nd 8 i = _; rw [z_fl_in (show i < 8 by omega)]; exact guess 1 _ i hi) ?_
    refine ⟨⟨1, hD, Nat.le_refl _, fun i _ => rfl, rfl⟩, fun p hp hpk => ?_⟩
    have ep : p = 1 := by have := hp.1; omega
    subst ep
    exact ⟨Nat.le_refl _, fun _ => Nat.le_refl _⟩
  obtain ⟨r, h', fw', q1, q2, q3, q4⟩ := first
  refine ⟨(r.2.2.1, r.2.2.2.1, r.2.2.2.2.1, r.2.2.2.2.2), h', fw', ?_, q2, q3, q4⟩
  unfold fX0_makeRound
  exact (bd_of q1).trans rfl
