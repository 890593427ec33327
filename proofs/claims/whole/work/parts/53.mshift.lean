/-! the reference's shifts -/
def z_or (n s i : Nat) (S : Int32) : Nat → Int32
  | 0 => S
  | t + 1 => z_or n s i S t ||| ((1 : Int32) <<< (nI ((i + t * s) % n) &&& 31))
def z_or4 (n s i m : Nat) (S : Int32) : Nat → Int32
  | 0 => S
  | k + 1 => z_or n s i (z_or4 n s i m S k) m
/-- what has been seen before place i -/
def z_se (n s m : Nat) : Nat → Int32
  | 0 => 0
  | i + 1 => if ((z_se n s m i >>> (nI i &&& 31)) &&& (1 : Int32)) = 0 then z_or4 n s i m (z_se n s m i) 4 else z_se n s m i
theorem m_sh50 {f : Nat → Int32} {g : Nat → Nat} {n s i m v : Nat} (hn : n ≤ 8) (hf : Rg f g n) (hs : s < n) (hi : i < n) (hv : v < 4) (hm : 1 ≤ m) (hm8 : m ≤ 8) (h1 : (i + m * s) % n = i) (h2 : ∀ t, t < m → 0 < t → (i + t * s) % n ≠ i) (S : Int32) :
    fX5_fromShift_L50 FU (nI s) S (nI i) (0 : Int32) (nI v) (0 : Int32) (nI i) (nI n) f = some (z_or n s i S m, nI m, nI (z_sum (fun t => if g ((i + t * s) % n) = v then 1 else 0) m), nI i) := by
  have hh : fX5_fromShift_L50 FU (nI s) (z_or n s i S 0) (nI i) (nI 0) (nI v) (nI (z_sum (fun t => if g ((i + t * s) % n) = v then 1 else 0) 0)) (nI ((i + 0 * s) % n)) (nI n) f = some (z_or n s i S m, nI m, nI (z_sum (fun t => if g ((i + t * s) % n) = v then 1 else 0) m), nI ((i + m * s) % n)) :=
    lp_FU (fun fuel t => fX5_fromShift_L50 fuel (nI s) (z_or n s i S t) (nI i) (nI t) (nI v) (nI (z_sum (fun t => if g ((i + t * s) % n) = v then 1 else 0) t)) (nI ((i + t * s) % n)) (nI n) f) m _ (by omega) 0 (Nat.zero_le _)
    (by
      intro t fuel ht
      have hm1 : (i + t * s) % n < n := Nat.mod_lt _ (by omega)
      have b1 := hf _ hm1
      have ea : nI ((i + t * s) % n) + nI s - (nI ((i + t * s) % n) + nI s) / nI n * nI n = nI ((i + (t + 1) * s) % n) := by
        rw [nI_add, pk_rem (by omega) (by omega) (by omega), Nat.mod_add_mod, Nat.succ_mul, Nat.add_assoc]
      have eo : z_or n s i S (t + 1) = z_or n s i S t ||| ((1 : Int32) <<< (nI ((i + t * s) % n) &&& 31)) := rfl
      have body : (gin (nI ((i + t * s) % n)) 8 (bd (if f (nI ((i + t * s) % n)).toNatClampNeg = nI v then some (1 : Int32) else some 0) fun q1 => gnz (nI n) (fX5_fromShift_L50 fuel (nI s) (z_or n s i S t ||| ((1 : Int32) <<< (nI ((i + t * s) % n) &&& 31))) (nI i) (nI t + (1 : Int32)) (nI v) (nI (z_sum (fun t => if g ((i + t * s) % n) = v then 1 else 0) t) + q1) (nI ((i + t * s) % n) + nI s - (nI ((i + t * s) % n) + nI s) / nI n * nI n) (nI n) f))) = fX5_fromShift_L50 fuel (nI s) (z_or n s i S (t + 1)) (nI i) (nI (t + 1)) (nI v) (nI (z_sum (fun t => if g ((i + t * s) % n) = v then 1 else 0) (t + 1))) (nI ((i + (t + 1) * s) % n)) (nI n) f := by
        rw [gin_nI (by omega) (by decide), nI_clamp (by omega), b1.2, ea, nI_1', z_sum_s, eo]
        by_cases e : g ((i + t * s) % n) = v
        · rw [if_pos (by rw [e]), bd_s, gnz_of (nI_ne0 (by omega) (by omega)), if_pos e, nI_1']
        · rw [if_neg (fun q => e ((nI_eq (by omega) (by omega)).mp q)), bd_s, gnz_of (nI_ne0 (by omega) (by omega)), if_neg e, nI_add0]; rfl
      try dsimp only
      rw [fX5_fromShift_L50_s]
      by_cases e0 : t = 0
      · rw [if_pos (show nI t = 0 by rw [e0]; rfl)]
        exact body
      · rw [if_neg (nI_ne0 (by omega) (by omega)), if_neg (fun q => h2 t ht (by omega) ((nI_eq (by omega) (by omega)).mp q))]
        exact body)
    (by
      intro fuel
      try dsimp only
      rw [fX5_fromShift_L50_s, if_neg (nI_ne0 (by omega) (by omega)), if_pos (by rw [h1])])
  rw [h1, Nat.zero_mul, Nat.add_zero, Nat.mod_eq_of_lt hi] at hh
  exact hh
theorem m_sh34 {f : Nat → Int32} {g : Nat → Nat} {n s i m : Nat} (hn : n ≤ 8) (hf : Rg f g n) (hs : s < n) (hi : i < n) (hm : 1 ≤ m) (hm8 : m ≤ 8) (h1 : (i + m * s) % n = i) (h2 : ∀ t, t < m → 0 < t → (i + t * s) % n ≠ i) (S : Int32) :
    fX5_fromShift_L34 FU (nI s) S (nI i) (0 : Int32) (0 : Int32) (0 : Int32) (nI n) f = some (z_or4 n s i m S 4, nI m, nI (z_mxk (fun v => z_sum (fun t => if g ((i + t * s) % n) = v then 1 else 0) m) 4), nI 4) := by
  have lc : ∀ v, z_sum (fun t => if g ((i + t * s) % n) = v then 1 else 0) m ≤ 8 := fun v => by
    have := z_sum_le (g := fun t => if g ((i + t * s) % n) = v then 1 else 0) (n := m) (m := 1) (fun t _ => by split <;> omega)
    omega
  exact lp_FU (fun fuel k => fX5_fromShift_L34 fuel (nI s) (z_or4 n s i m S k) (nI i) (nI (if k = 0 then 0 else m)) (nI (z_mxk (fun v => z_sum (fun t => if g ((i + t * s) % n) = v then 1 else 0) m) k)) (nI k) (nI n) f) 4 _ (by decide) 0 (by decide)
    (by
      intro k fuel hk
      have c : ¬ (4 : Int32) ≤ nI k := nI_ge hk (by decide)
      have lm : z_mxk (fun v => z_sum (fun t => if g ((i + t * s) % n) = v then 1 else 0) m) k ≤ 8 := z_mxk_le (fun v _ => lc v)
      have lk := lc k
      have eo : z_or4 n s i m S (k + 1) = z_or n s i (z_or4 n s i m S k) m := rfl
      try dsimp only
      rw [fX5_fromShift_L34_s, if_neg c, bd_of (m_sh50 hn hf hs hi hk hm hm8 h1 h2 _), nI_1', z_mxk_s, eo, if_neg (show ¬ k + 1 = 0 by omega)]
      show (if nI (z_sum (fun t => if g ((i + t * s) % n) = k then 1 else 0) m) ≤ nI (z_mxk (fun v => z_sum (fun t => if g ((i + t * s) % n) = v then 1 else 0) m) k) then _ else _) = _
      by_cases e : z_sum (fun t => if g ((i + t * s) % n) = k then 1 else 0) m ≤ z_mxk (fun v => z_sum (fun t => if g ((i + t * s) % n) = v then 1 else 0) m) k
      · rw [if_pos (nI_le e (by omega)), if_pos e]
      · rw [if_neg (nI_ge (by omega) (by omega)), if_neg e])
    (by
      intro fuel
      try dsimp only
      rw [fX5_fromShift_L34_s, if_pos (by decide)]
      rfl)
/-- the shifts' orbits: checked for each length and shift -/
def z_okS (n s : Nat) : Bool := (List.range n).all fun i => decide ((i + n / Nat.gcd s n * s) % n = i) && ((List.range (n / Nat.gcd s n)).all fun t => decide (t = 0) || decide ((i + t * s) % n ≠ i)) && (decide (((z_se n s (n / Nat.gcd s n) i >>> (nI i &&& 31)) &&& (1 : Int32)) = 0) == decide (i < Nat.gcd s n))
theorem z_okS_all : ((List.range 9).all fun n => (List.range n).all fun s => decide (n < 2) || decide (s = 0) || z_okS n s) = true := by decide +kernel
theorem z_okS_at {n s : Nat} (h2 : 2 ≤ n) (hn : n ≤ 8) (h1 : 1 ≤ s) (hs : s < n) : ∀ i, i < n → (i + n / Nat.gcd s n * s) % n = i ∧ (∀ t, t < n / Nat.gcd s n → 0 < t → (i + t * s) % n ≠ i) ∧ (((z_se n s (n / Nat.gcd s n) i >>> (nI i &&& 31)) &&& (1 : Int32)) = 0 ↔ i < Nat.gcd s n) := by
  have a := List.all_eq_true.mp (List.all_eq_true.mp z_okS_all n (List.mem_range.mpr (by omega))) s (List.mem_range.mpr hs)
  have b : z_okS n s = true := by
    rcases (Bool.or_eq_true _ _).mp a with q | q
    · rcases (Bool.or_eq_true _ _).mp q with q | q
      · have := of_decide_eq_true q; omega
      · have := of_decide_eq_true q; omega
    · exact q
  intro i hi
  have c := List.all_eq_true.mp b i (List.mem_range.mpr hi)
  obtain ⟨d, e3⟩ := (Bool.and_eq_true _ _).mp c
  obtain ⟨e1, e2⟩ := (Bool.and_eq_true _ _).mp d
  refine ⟨of_decide_eq_true e1, fun t ht h0 => ?_, ?_⟩
  · have := List.all_eq_true.mp e2 t (List.mem_range.mpr ht)
    rcases (Bool.or_eq_true _ _).mp this with q | q
    · have := of_decide_eq_true q; omega
    · exact of_decide_eq_true q
  · have := eq_of_beq e3
    exact decide_eq_decide.mp this
/-- an orbit's places are those of the class by the greatest common divisor -/
theorem z_orbit (e : Nat → Nat) {n s i : Nat} (h2 : 2 ≤ n) (hn : n ≤ 8) (h1 : 1 ≤ s) (hs : s < n) (hi : i < Nat.gcd s n) : z_sum (fun t => e ((i + t * s) % n)) (n / Nat.gcd s n) = z_sum (fun t => e (i + t * Nat.gcd s n)) (n / Nat.gcd s n) := by
  have hi4 : i < 4 := by
    have hd := z_gcd_Dv h1 hs
    rcases Dv_cases hn hd with ⟨_, q⟩ | ⟨_, q⟩ | ⟨_, q⟩ | ⟨_, q⟩ | ⟨_, q⟩ | ⟨_, q⟩ | ⟨_, q⟩ | ⟨_, q⟩ | ⟨_, q⟩ | ⟨_, q⟩ | ⟨_, q⟩ | ⟨_, q⟩ <;> omega
  rcases (show n = 2 ∨ n = 3 ∨ n = 4 ∨ n = 5 ∨ n = 6 ∨ n = 7 ∨ n = 8 by omega) with rfl | rfl | rfl | rfl | rfl | rfl | rfl
  all_goals rcases (show s = 1 ∨ s = 2 ∨ s = 3 ∨ s = 4 ∨ s = 5 ∨ s = 6 ∨ s = 7 by omega) with rfl | rfl | rfl | rfl | rfl | rfl | rfl
  all_goals first
    | (exfalso; omega; done)
    | (rcases (show i = 0 ∨ i = 1 ∨ i = 2 ∨ i = 3 by omega) with rfl | rfl | rfl | rfl <;> first | (exfalso; revert hi; decide) | (simp [z_sum]; done) | (simp [z_sum]; omega))
theorem m_fromShift {f : Nat → Int32} {g : Nat → Nat} {n s : Nat} (h2 : 2 ≤ n) (hn : n ≤ 8) (hf : Rg f g n) (h1 : 1 ≤ s) (hs : s < n) : fX5_fromShift (nI n) f (nI s) = some (nI (z_pcost g n (Nat.gcd s n))) := by
  have ok := z_okS_at h2 hn h1 hs
  have hD := z_gcd_Dv h1 hs
  have hd := z_dvpos hn hD
  have orb : ∀ i, i < Nat.gcd s n → z_mxk (fun v => z_sum (fun t => if g ((i + t * s) % n) = v then 1 else 0) (n / Nat.gcd s n)) 4 = z_mxk (z_ct g n (Nat.gcd s n) i) 4 := by
    intro i hi
    exact z_mxk_congr (fun v _ => z_orbit (fun j => if g j = v then 1 else 0) h2 hn h1 hs hi)
  generalize hG : Nat.gcd s n = d at *
  have hdn : d < n := hD.2.1
  have hmx : ∀ i, z_mxk (z_ct g n d i) 4 ≤ n / d := fun i => z_mxk_le (fun v _ => z_ct_le g n d i v)
  have hh : fX5_fromShift_L7 FU (nI s) (z_se n s (n / d) 0) (nI (z_sum (fun r => if r < d then n / d - z_mxk (z_ct g n d r) 4 else 0) 0)) (nI 0) (nI n) f = some (z_se n s (n / d) n, nI (z_sum (fun r => if r < d then n / d - z_mxk (z_ct g n d r) 4 else 0) n), nI n) :=
    lp_FU (fun fuel i => fX5_fromShift_L7 fuel (nI s) (z_se n s (n / d) i) (nI (z_sum (fun r => if r < d then n / d - z_mxk (z_ct g n d r) 4 else 0) i)) (nI i) (nI n) f) n _ (by omega) 0 (Nat.zero_le _)
    (by
      intro i fuel hi
      have c : ¬ nI n ≤ nI i := nI_ge hi (by omega)
      obtain ⟨o1, o2, o3⟩ := ok i hi
      have es : z_se n s (n / d) (i + 1) = if ((z_se n s (n / d) i >>> (nI i &&& 31)) &&& (1 : Int32)) = 0 then z_or4 n s i (n / d) (z_se n s (n / d) i) 4 else z_se n s (n / d) i := rfl
      try dsimp only
      rw [fX5_fromShift_L7_s, if_neg c, z_sum_s, es, nI_1']
      by_cases e : i < d
      · have e' := o3.mpr e
        have hm := hmx i
        rw [if_pos e', if_pos e', if_pos e, bd_of (m_sh34 hn hf hs hi hd.1 hd.2 o1 o2 _), orb i e]
        show fX5_fromShift_L7 fuel (nI s) (z_or4 n s i (n / d) (z_se n s (n / d) i) 4) (nI _ + (nI (n / d) - nI (z_mxk (z_ct g n d i) 4))) (nI (i + 1)) (nI n) f = _
        rw [nI_sub' hm, nI_add]
      · have e' : ¬ ((z_se n s (n / d) i >>> (nI i &&& 31)) &&& (1 : Int32)) = 0 := fun q => e (o3.mp q)
        rw [if_neg e', if_neg e', if_neg e]; rfl)
    (by
      intro fuel
      try dsimp only
      rw [fX5_fromShift_L7_s, if_pos (nI_le (Nat.le_refl n) (by omega))])
  have ec : z_sum (fun r => if r < d then n / d - z_mxk (z_ct g n d r) 4 else 0) n = z_pcost g n d := by
    rw [z_sum_cut (m := d) (by omega) (fun t h3 _ => if_neg (by omega))]
    exact z_sum_congr (fun r hr => if_pos hr)
  unfold fX5_fromShift
  refine (bd_of hh).trans ?_
  show some (nI (z_sum (fun r => if r < d then n / d - z_mxk (z_ct g n d r) 4 else 0) n)) = _
  rw [ec]
theorem m_fromRound {f : Nat → Int32} {g : Nat → Nat} {n : Nat} (h2 : 2 ≤ n) (hn : n ≤ 8) (hf : Rg f g n) : fX5_fromRound (nI n) f = some (nI (z_rd g n)) := by
  have hg : D4 g n := fun i hi => (hf i hi).1
  have lr : ∀ k, k < n → z_rdk g n k ≤ 8 := by
    intro k hk
    rcases z_rdk_or g n k with q | ⟨s, q1, q2, q3⟩
    · omega
    · have := z_pcost_le g hn (z_gcd_Dv q1 (show s < n by omega)) hg
      omega
  have hh : fX5_fromRound_L7 FU (nI (z_rdk g n (1 - 1))) (nI 1) (nI n) f = some (nI (z_rdk g n (n - 1)), nI n) :=
    lp_FU2 (fun fuel k => fX5_fromRound_L7 fuel (nI (z_rdk g n (k - 1))) (nI k) (nI n) f) n _ (by omega) 1 (by omega)
    (by
      intro k fuel hk1 hk
      have c : ¬ nI n ≤ nI k := nI_ge hk (by omega)
      have l1 := lr (k - 1) (by omega)
      have l2 := z_pcost_le g hn (z_gcd_Dv hk1 hk) hg
      have es : z_rdk g n (k + 1 - 1) = if z_rdk g n (k - 1) ≤ z_pcost g n (Nat.gcd k n) then z_rdk g n (k - 1) else z_pcost g n (Nat.gcd k n) := by
        obtain ⟨j, rfl⟩ : ∃ j, k = j + 1 := ⟨k - 1, by omega⟩
        rfl
      try dsimp only
      rw [fX5_fromRound_L7_s, if_neg c, bd_of (m_fromShift h2 hn hf hk1 hk), nI_1', es]
      by_cases e : z_rdk g n (k - 1) ≤ z_pcost g n (Nat.gcd k n)
      · rw [if_pos (nI_le e (by omega)), if_pos e]
      · rw [if_neg (nI_ge (by omega) (by omega)), if_neg e])
    (by
      intro fuel
      try dsimp only
      rw [fX5_fromRound_L7_s, if_pos (nI_le (Nat.le_refl n) (by omega))])
  unfold fX5_fromRound
  exact (bd_of hh).trans rfl
