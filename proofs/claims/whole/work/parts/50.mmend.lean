/-! the mender: rising, mirrored, even -/
theorem m_min {a b : Nat} (ha : a < 2 ^ 31) (hb : b < 2 ^ 31) : (if nI b < nI a then nI b else nI a) = nI (z_mn2 a b) := by
  unfold z_mn2
  by_cases e : b < a
  · rw [if_pos (nI_lt e ha), if_pos e]
  · rw [if_neg (nI_nlt (by omega) hb), if_neg e]
theorem z_ix (i v : Nat) : (nI i * (4 : Int32)) + nI v = nI (i * 4 + v) := by
  rw [show (4 : Int32) = nI 4 from rfl, pk_mul, nI_add]
theorem m_costWith {c f : Nat → Int32} {g : Nat → Nat} {n i v : Nat} (hn : n ≤ 8) (hf : Rg f g n) (hi : i < n) (hv : v < 4) (hc : c ((i + 1) * 4 + v) = nI (z_co g n (i + 1) v)) : fX0_costWith c f (nI i) (nI v) = some (nI (z_cw g n i v)) := by
  have b1 := hf i hi
  have e : z_cw g n i v = (if g i = v then 0 else 1) + z_co g n (i + 1) v := rfl
  unfold fX0_costWith
  rw [gin_nI (by omega) (by decide), nI_clamp (by omega), b1.2, nI_1', z_ix, e]
  by_cases q : g i = v
  · rw [if_pos (by rw [q]), if_pos q, bd_s, gin_nI (by omega) (by decide), nI_clamp (by omega), hc, show (0 : Int32) = nI 0 from rfl, nI_add]
  · rw [if_neg (fun z => q ((nI_eq (by omega) (by omega)).mp z)), if_neg q, bd_s, gin_nI (by omega) (by decide), nI_clamp (by omega), hc, show (1 : Int32) = nI 1 from rfl, nI_add]
def CoA (c : Nat → Int32) (g : Nat → Nat) (n i : Nat) : Prop := ∀ j, i ≤ j → j ≤ n → ∀ v, v < 4 → c (j * 4 + v) = nI (z_co g n j v)
theorem m_fc2 {n : Nat} (hn : n ≤ 8) (c : Nat → Int32) : ∃ c', fX0_fillCosts_L2 FU (0 : Int32) c (nI n) = some (nI 4, c') ∧ ∀ v, v < 4 → c' (n * 4 + v) = 0 := by
  have key : ∀ (d k fuel : Nat) (c : Nat → Int32), k + d = 4 → d < fuel → (∀ v, v < k → c (n * 4 + v) = 0) → ∃ c', fX0_fillCosts_L2 fuel (nI k) c (nI n) = some (nI 4, c') ∧ ∀ v, v < 4 → c' (n * 4 + v) = 0 := by
    intro d
    induction d with
    | zero =>
      intro k fuel c hk hf h
      have ek : k = 4 := by omega
      subst ek
      cases fuel with
      | zero => omega
      | succ fuel =>
        rw [fX0_fillCosts_L2_s, if_pos (by decide)]
        exact ⟨c, rfl, h⟩
    | succ d ih =>
      intro k fuel c hk hf h
      cases fuel with
      | zero => omega
      | succ fuel =>
        rw [fX0_fillCosts_L2_s, if_neg (show ¬ (4 : Int32) ≤ nI k from nI_ge (a := k) (b := 4) (by omega) (by decide)), z_ix, gin_nI (by omega) (by decide), nI_clamp (by omega), nI_1']
        refine ih (k + 1) fuel _ (by omega) (by omega) (fun v hv => ?_)
        by_cases e : v = k
        · subst e; exact pk_us
        · rw [pk_un (by omega)]; exact h v (by omega)
  exact key 4 0 FU c (by decide) (by decide) (fun v hv => by omega)
theorem m_fc44 {c f : Nat → Int32} {g : Nat → Nat} {n i : Nat} (hn : n ≤ 8) (hf : Rg f g n) (hi : i < n) (hc : CoA c g n (i + 1)) : ∃ r : Int32 × Int32 × (Nat → Int32), fX0_fillCosts_L44 FU (nI i) (8 : Int32) (3 : Int32) c f = some r ∧ CoA r.2.2 g n i := by
  have l8 := fun v => z_cw_le8 g hn hi v
  have m3 : z_mn (z_cw g n i) 3 = z_mn2 8 (z_cw g n i 3) := rfl
  have m2 : z_mn (z_cw g n i) 2 = z_mn2 (z_mn (z_cw g n i) 3) (z_cw g n i 2) := rfl
  have m1 : z_mn (z_cw g n i) 1 = z_mn2 (z_mn (z_cw g n i) 2) (z_cw g n i 1) := rfl
  have m0 : z_mn (z_cw g n i) 0 = z_mn2 (z_mn (z_cw g n i) 1) (z_cw g n i 0) := rfl
  have l3 := z_mn_le8 (z_cw g n i) 3
  have l2 := z_mn_le8 (z_cw g n i) 2
  have l1 := z_mn_le8 (z_cw g n i) 1
  have q8 := l8 0
  have q81 := l8 1
  have q82 := l8 2
  have q83 := l8 3
  have hcv : ∀ v, v < 4 → c ((i + 1) * 4 + v) = nI (z_co g n (i + 1) v) := fun v hv => hc (i + 1) (Nat.le_refl _) (by omega) v hv
  have step : ∀ (fuel v m : Nat) (x : Nat → Int32), v < 4 → m ≤ 8 → x ((i + 1) * 4 + v) = nI (z_co g n (i + 1) v) → fX0_fillCosts_L44 (fuel + 1) (nI i) (nI m) (nI v) x f = fX0_fillCosts_L44 fuel (nI i) (nI (z_mn2 m (z_cw g n i v))) (nI v + (-1 : Int32)) (upd x (i * 4 + v) (nI (z_mn2 m (z_cw g n i v)))) f := by
    intro fuel v m x hv hm hx
    have := l8 v
    rw [fX0_fillCosts_L44_s, if_neg (nI_pos (by omega)), bd_of (m_costWith hn hf hi hv hx), z_ix, gin_nI (by omega) (by decide), nI_clamp (by omega), m_min (by omega) (by omega)]
  have d3 : nI 3 + (-1 : Int32) = nI 2 := by decide
  have d2 : nI 2 + (-1 : Int32) = nI 1 := by decide
  have d1 : nI 1 + (-1 : Int32) = nI 0 := by decide
  have e : fX0_fillCosts_L44 FU (nI i) (nI 8) (nI 3) c f = some (nI (z_mn (z_cw g n i) 0), nI 0 + (-1 : Int32), upd (upd (upd (upd c (i * 4 + 3) (nI (z_mn (z_cw g n i) 3))) (i * 4 + 2) (nI (z_mn (z_cw g n i) 2))) (i * 4 + 1) (nI (z_mn (z_cw g n i) 1))) (i * 4 + 0) (nI (z_mn (z_cw g n i) 0))) := by
    rw [show FU = 69995 + 1 + 1 + 1 + 1 + 1 from rfl, step _ 3 8 c (by decide) (by decide) (hcv 3 (by decide)), d3, ← m3, step _ 2 _ _ (by decide) l3 (by rw [pk_un (by omega)]; exact hcv 2 (by decide)), d2, ← m2, step _ 1 _ _ (by decide) l2 (by rw [pk_un (by omega), pk_un (by omega)]; exact hcv 1 (by decide)), d1, ← m1, step _ 0 _ _ (by decide) l1 (by rw [pk_un (by omega), pk_un (by omega), pk_un (by omega)]; exact hcv 0 (by decide)), ← m0, fX0_fillCosts_L44_s, if_pos (by decide)]
  refine ⟨_, e, fun j h1 h2 v hv => ?_⟩
  show upd (upd (upd (upd c (i * 4 + 3) (nI (z_mn (z_cw g n i) 3))) (i * 4 + 2) (nI (z_mn (z_cw g n i) 2))) (i * 4 + 1) (nI (z_mn (z_cw g n i) 1))) (i * 4 + 0) (nI (z_mn (z_cw g n i) 0)) (j * 4 + v) = _
  by_cases ej : j = i
  · subst ej
    rw [z_co_s g v hi]
    rcases (show v = 0 ∨ v = 1 ∨ v = 2 ∨ v = 3 by omega) with rfl | rfl | rfl | rfl
    · rw [pk_us]
    · rw [pk_un (by omega), pk_us]
    · rw [pk_un (by omega), pk_un (by omega), pk_us]
    · rw [pk_un (by omega), pk_un (by omega), pk_un (by omega), pk_us]
  · rw [pk_un (by omega), pk_un (by omega), pk_un (by omega), pk_un (by omega)]
    exact hc j (by omega) h2 v hv
theorem m_fillCosts {c f : Nat → Int32} {g : Nat → Nat} {n : Nat} (hn1 : 1 ≤ n) (hn : n ≤ 8) (hf : Rg f g n) : ∃ c', fX0_fillCosts c (nI n) f = some c' ∧ CoA c' g n 0 := by
  obtain ⟨c1, h1, h2⟩ := m_fc2 hn c
  have key : ∀ (k fuel : Nat) (c : Nat → Int32), k ≤ n → k < fuel → CoA c g n k → ∃ r : Int32 × (Nat → Int32), fX0_fillCosts_L34 fuel (nI k + (-1 : Int32)) c f = some r ∧ CoA r.2 g n 0 := by
    intro k
    induction k with
    | zero =>
      intro fuel c _ hfu hc
      cases fuel with
      | zero => omega
      | succ fuel =>
        rw [fX0_fillCosts_L34_s, if_pos (by decide)]
        exact ⟨_, rfl, hc⟩
    | succ k ih =>
      intro fuel c hk hfu hc
      cases fuel with
      | zero => omega
      | succ fuel =>
        obtain ⟨r, h3, h4⟩ := m_fc44 hn hf (by omega) hc
        rw [pk_m1, fX0_fillCosts_L34_s, if_neg (nI_pos (by omega)), bd_of h3]
        exact ih fuel _ (by omega) (by omega) h4
  obtain ⟨r, h3, h4⟩ := key n FU c1 (Nat.le_refl _) (by unfold FU; omega) (fun j h5 h6 v hv => by
    have : j = n := by omega
    subst this
    rw [h2 v hv, z_co_n]
    rfl)
  have e1 : nI n - (1 : Int32) = nI n + (-1 : Int32) := by
    rw [nI_m1' hn1]
    obtain ⟨m, rfl⟩ : ∃ m, n = m + 1 := ⟨n - 1, by omega⟩
    rw [pk_m1]
    rfl
  refine ⟨r.2, ?_, h4⟩
  unfold fX0_fillCosts
  rw [bd_of h1, e1]
  exact (bd_of h3).trans rfl
theorem m_raise {a c f : Nat → Int32} {g : Nat → Nat} {n : Nat} (hn1 : 1 ≤ n) (hn : n ≤ 8) (hf : Rg f g n) : ∃ c', fX0_raise a c (nI n) f = some (z_fl (fun i => nI (z_ri g n i)) a n, c') := by
  obtain ⟨c', h1, h2⟩ := m_fillCosts (c := c) hn1 hn hf
  have inner : ∀ (i F : Nat), i < n → F ≤ 8 → ∀ (d l fuel : Nat), 3 ≤ l + d → l < 4 → d + 1 < fuel → fX0_raise_L29 fuel (nI l) (nI i) (nI F) c' f = some (nI (z_nx g n i F d l)) := by
    intro i F hi hF d
    induction d with
    | zero =>
      intro l fuel hl h4 hfu
      have el : l = 3 := by omega
      subst el
      cases fuel with
      | zero => omega
      | succ fuel =>
        rw [fX0_raise_L29_s, if_pos (by decide)]
        rfl
    | succ d ih =>
      intro l fuel hl h4 hfu
      cases fuel with
      | zero => omega
      | succ fuel =>
        have hx : c' ((i + 1) * 4 + l) = nI (z_co g n (i + 1) l) := h2 (i + 1) (by omega) (by omega) l h4
        have l8 := z_cw_le8 g hn hi l
        rw [fX0_raise_L29_s]
        unfold z_nx
        by_cases e : 3 ≤ l
        · rw [if_pos (show (3 : Int32) ≤ nI l from nI_le (a := 3) (b := l) e (by omega)), if_pos e]
        · rw [if_neg (show ¬ (3 : Int32) ≤ nI l from nI_ge (a := l) (b := 3) (by omega) (by decide)), if_neg e, bd_of (m_costWith hn hf hi h4 hx)]
          by_cases e2 : z_cw g n i l ≤ F
          · rw [if_pos (nI_le e2 (by omega)), if_pos e2]
          · rw [if_neg (nI_ge (by omega) (by omega)), if_neg e2, nI_1']
            exact ih (l + 1) fuel (by omega) (by omega) (by omega)
  have h : fX0_raise_L9 FU (nI (z_ls g n 0)) (nI 0) (z_fl (fun i => nI (z_ri g n i)) a 0) c' (nI n) f = some (nI (z_ls g n n), nI n, z_fl (fun i => nI (z_ri g n i)) a n) :=
    lp_FU (fun fuel k => fX0_raise_L9 fuel (nI (z_ls g n k)) (nI k) (z_fl (fun i => nI (z_ri g n i)) a k) c' (nI n) f) n _ (by omega) 0 (Nat.zero_le _)
    (by
      intro k fuel hk
      have c : ¬ nI n ≤ nI k := nI_ge hk (by omega)
      have sp := z_ri_spec g hn k hk
      have hx : c' (k * 4 + z_ls g n k) = nI (z_co g n k (z_ls g n k)) := h2 k (by omega) (by omega) _ sp.1
      have l8 := z_co_le g hn (n - k) k (z_ls g n k) (by omega)
      have el : z_ls g n (k + 1) = z_ri g n k := by unfold z_ls; rw [if_neg (by omega), Nat.add_sub_cancel]
      try dsimp only
      rw [fX0_raise_L9_s, if_neg c, z_ix, gin_nI (by have := sp.1; omega) (by decide), nI_clamp (by have := sp.1; omega), hx, bd_of (inner k _ hk (by omega) 4 _ FU (by omega) sp.1 (by decide)), ← z_ri_e, gin_nI (by omega) (by decide), nI_clamp (by omega), nI_1', el]
      exact congrArg (fun z => fX0_raise_L9 fuel (nI (z_ri g n k)) (nI (k + 1)) z c' (nI n) f) (z_fl_s' _ _ _ _ rfl))
    (by
      intro fuel
      try dsimp only
      rw [fX0_raise_L9_s, if_pos (nI_le (Nat.le_refl n) (by omega))])
  rw [z_fl_0] at h
  have e0 : z_ls g n 0 = 0 := by unfold z_ls; rw [if_pos rfl]
  rw [e0] at h
  refine ⟨c', ?_⟩
  unfold fX0_raise
  rw [bd_of h1]
  exact (bd_of h).trans rfl
theorem m_mirror {a f : Nat → Int32} {g : Nat → Nat} {n : Nat} (hn : n ≤ 8) (hf : Rg f g n) : fX0_mirror a (nI n) f = some (z_fl (fun i => nI (z_mr g n i)) a n) := by
  have h : fX0_mirror_L2 FU (nI 0) (z_fl (fun i => nI (z_mr g n i)) a 0) (nI n) f = some (nI n, z_fl (fun i => nI (z_mr g n i)) a n) :=
    lp_FU (fun fuel k => fX0_mirror_L2 fuel (nI k) (z_fl (fun i => nI (z_mr g n i)) a k) (nI n) f) n _ (by omega) 0 (Nat.zero_le _)
    (by
      intro k fuel hk
      have c : ¬ nI n ≤ nI k := nI_ge hk (by omega)
      have b1 := hf k hk
      have b2 := hf (n - 1 - k) (by omega)
      have em : (if nI (g (n - 1 - k)) < nI (g k) then nI (g (n - 1 - k)) else nI (g k)) = nI (z_mr g n k) := by
        unfold z_mr
        by_cases e : g (n - 1 - k) < g k
        · rw [if_pos (nI_lt e (by omega)), if_pos e]
        · rw [if_neg (nI_nlt (by omega) (by omega)), if_neg e]
      try dsimp only
      rw [fX0_mirror_L2_s, if_neg c, nI_m1' (by omega), nI_sub' (by omega), gin_nI (by omega) (by decide), gin_nI (by omega) (by decide), gin_nI (by omega) (by decide), nI_clamp (by omega), nI_clamp (by omega), b1.2, b2.2, nI_1', em]
      exact congrArg (fun z => fX0_mirror_L2 fuel (nI (k + 1)) z (nI n) f) (z_fl_s' _ _ _ _ rfl))
    (by
      intro fuel
      try dsimp only
      rw [fX0_mirror_L2_s, if_pos (nI_le (Nat.le_refl n) (by omega))])
  rw [z_fl_0] at h
  unfold fX0_mirror
  exact (bd_of h).trans rfl
theorem m_makeEven {f : Nat → Int32} {g : Nat → Nat} {n : Nat} (hn : n ≤ 8) (hf : Rg f g n) : ∃ f', fX0_makeEven (nI n) f = some f' ∧ ∀ i, i < n → f' i = nI (z_ev g n i) := by
  have hb : z_sum g n < 2 ^ 31 := by have := z_sum4_lt hn (fun i hi => (hf i hi).1); omega
  unfold fX0_makeEven
  rw [bd_of (m_total hn hf), nI_rem2 hb]
  by_cases ev : z_sum g n % 2 = 0
  · rw [ev, if_pos (by rfl)]
    refine ⟨f, rfl, fun i hi => ?_⟩
    unfold z_ev
    rw [if_pos ev]
    exact (hf i hi).2
  · rw [if_neg (show ¬ nI (z_sum g n % 2) = (0 : Int32) from fun q => ev ((nI_eq (b := 0) (by omega) (by decide)).mp q))]
    have hh : fX0_makeEven_L15 FU (nI 0) (nI n) f = some (z_el (fun k => (.inl (upd f k (if g k = 2 then 1 else 0)) : (Nat → Int32) ⊕ (Int32 × (Nat → Int32)))) (.inr (nI n, f)) (z_fd (fun k => decide (0 < g k)) n 0)) :=
      lp_findFU (fun fuel k => fX0_makeEven_L15 fuel (nI k) (nI n) f) n (by omega) _ _ _
      (by
        intro k fuel hk hp
        have c : ¬ nI n ≤ nI k := nI_ge hk (by omega)
        have b1 := hf k hk
        have e : g k = 0 := by simpa using hp
        try dsimp only
        rw [fX0_makeEven_L15_s, if_neg c, gin_nI (by omega) (by decide), nI_clamp (by omega), b1.2, e, if_pos (by decide), nI_1'])
      (by
        intro k fuel hk hp
        have c : ¬ nI n ≤ nI k := nI_ge hk (by omega)
        have b1 := hf k hk
        have e : 0 < g k := by simpa using hp
        try dsimp only
        rw [fX0_makeEven_L15_s, if_neg c, gin_nI (by omega) (by decide), nI_clamp (by omega), b1.2, if_neg (nI_nle e (by omega)), gin_nI (by omega) (by decide)]
        by_cases q : g k = 2
        · rw [if_pos (show nI (g k) = (2 : Int32) by rw [q]; rfl), gin_nI (by omega) (by decide), if_pos q]
        · rw [if_neg (show ¬ nI (g k) = (2 : Int32) from fun z => q ((nI_eq (b := 2) (by omega) (by decide)).mp z)), gin_nI (by omega) (by decide), if_neg q])
      (by
        intro fuel
        try dsimp only
        rw [fX0_makeEven_L15_s, if_pos (nI_le (Nat.le_refl n) (by omega))])
    cases hz : z_fd (fun k => decide (0 < g k)) n 0 with
    | none =>
      rw [hz] at hh
      refine ⟨f, (bs_r (b := (nI n, f)) hh).trans rfl, fun i hi => ?_⟩
      unfold z_ev z_fp
      rw [if_neg ev, hz]
      exact (hf i hi).2
    | some p =>
      rw [hz] at hh
      refine ⟨upd f p (if g p = 2 then 1 else 0), bs_l hh, fun i hi => ?_⟩
      unfold z_ev z_fp
      rw [if_neg ev, hz]
      show upd f p (if g p = 2 then 1 else 0) i = nI (if i = p then (if g p = 2 then 1 else 0) else g i)
      by_cases e : i = p
      · subst e
        rw [pk_us, if_pos rfl]
        split <;> rfl
      · rw [pk_un e, if_neg e]
        exact (hf i hi).2
