/-! the reference's longest rising choice is what is kept -/
/-- the longest that ends at a place -/
def z_bst (g R : Nat → Nat) (v : Nat) : Nat → Nat
  | 0 => 0
  | k + 1 => if g k ≤ v ∧ z_bst g R v k < R k then R k else z_bst g R v k
theorem z_bst_s (g R : Nat → Nat) (v k : Nat) : z_bst g R v (k + 1) = if g k ≤ v ∧ z_bst g R v k < R k then R k else z_bst g R v k := rfl
theorem z_bst_ge (g R : Nat → Nat) {v k : Nat} (h : g k ≤ v) : R k ≤ z_bst g R v (k + 1) := by
  rw [z_bst_s]
  by_cases q : g k ≤ v ∧ z_bst g R v k < R k
  · rw [if_pos q]; exact Nat.le_refl _
  · rw [if_neg q]; omega
theorem z_bst_mono (g R : Nat → Nat) (v k : Nat) : z_bst g R v k ≤ z_bst g R v (k + 1) := by
  rw [z_bst_s]
  split <;> omega
theorem z_bst_congr {g R R' : Nat → Nat} {v k : Nat} (h : ∀ i, i < k → R i = R' i) : z_bst g R v k = z_bst g R' v k := by
  induction k with
  | zero => rfl
  | succ k ih => rw [z_bst_s, z_bst_s, ih (fun i hi => h i (by omega)), h k (by omega)]
def Ri (g R : Nat → Nat) (n : Nat) : Prop := ∀ j, j < n → R j = z_bst g R (g j) j + 1
def z_kc (g y : Nat → Nat) (k : Nat) : Nat := z_sum (fun i => if g i = y i then 1 else 0) k
theorem z_kc_df (g y : Nat → Nat) (k : Nat) : z_kc g y k + z_df g y k = k := by
  induction k with
  | zero => rfl
  | succ k ih =>
    have e1 : z_kc g y (k + 1) = z_kc g y k + (if g k = y k then 1 else 0) := rfl
    have e2 : z_df g y (k + 1) = z_df g y k + (if g k = y k then 0 else 1) := rfl
    rw [e1, e2]
    split <;> omega
theorem z_kept {g R y : Nat → Nat} {n : Nat} (hR : Ri g R n) (hr : Rs y n) : ∀ (k v : Nat), k ≤ n → (∀ i, i < k → y i ≤ v) → z_kc g y k ≤ z_bst g R v k := by
  intro k
  induction k with
  | zero => intro v _ _; exact Nat.zero_le _
  | succ k ih =>
    intro v hk hv
    have e1 : z_kc g y (k + 1) = z_kc g y k + (if g k = y k then 1 else 0) := rfl
    rw [e1]
    by_cases q : g k = y k
    · rw [if_pos q]
      have h1 := ih (g k) (by omega) (fun i hi => by rw [q]; exact hr i k (by omega) (by omega))
      have h2 := hR k (by omega)
      have h3 := z_bst_ge g R (v := v) (k := k) (by rw [q]; exact hv k (by omega))
      omega
    · rw [if_neg q]
      have h1 := ih v (by omega) (fun i hi => hv i (by omega))
      have h2 := z_bst_mono g R v k
      omega
theorem z_made {g R : Nat → Nat} {n : Nat} (hR : Ri g R n) (hg : D4 g n) : ∀ (k v : Nat), k ≤ n → v < 4 → ∃ y : Nat → Nat, (∀ i, i < k → y i ≤ v) ∧ Rs y k ∧ z_bst g R v k ≤ z_kc g y k := by
  intro k
  induction k with
  | zero => intro v _ _; exact ⟨fun _ => 0, fun i hi => by omega, fun i j _ h => by omega, Nat.le_refl _⟩
  | succ k ih =>
    intro v hk hv
    have ext : ∀ (y : Nat → Nat) (w : Nat), (∀ i, i < k → y i ≤ w) → Rs y k → Rs (fun i => if i = k then w else y i) (k + 1) := by
      intro y w h1 h2 i j hij hj
      by_cases e1 : j = k
      · subst e1
        by_cases e2 : i = j
        · subst e2; exact Nat.le_refl _
        · show (if i = j then w else y i) ≤ (if j = j then w else y j)
          rw [if_neg e2, if_pos rfl]
          exact h1 i (by omega)
      · show (if i = k then w else y i) ≤ (if j = k then w else y j)
        rw [if_neg e1, if_neg (by omega)]
        exact h2 i j hij (by omega)
    have kcx : ∀ (y : Nat → Nat) (w : Nat), z_kc g (fun i => if i = k then w else y i) (k + 1) = z_kc g y k + (if g k = w then 1 else 0) := by
      intro y w
      have e1 : z_kc g (fun i => if i = k then w else y i) (k + 1) = z_kc g (fun i => if i = k then w else y i) k + (if g k = (if k = k then w else y k) then 1 else 0) := rfl
      rw [e1, if_pos (rfl : k = k)]
      congr 1
      exact z_sum_congr (fun i hi => by show (if g i = (if i = k then w else y i) then 1 else 0) = _; rw [if_neg (show ¬ i = k by omega)])
    rw [z_bst_s]
    by_cases q : g k ≤ v ∧ z_bst g R v k < R k
    · rw [if_pos q]
      obtain ⟨y, h1, h2, h3⟩ := ih (g k) (by omega) (hg k (by omega))
      refine ⟨fun i => if i = k then g k else y i, fun i hi => ?_, ext y (g k) h1 h2, ?_⟩
      · show (if i = k then g k else y i) ≤ v
        split
        · exact q.1
        · have := h1 i (by omega); omega
      · rw [kcx, if_pos rfl, hR k (by omega)]
        omega
    · rw [if_neg q]
      obtain ⟨y, h1, h2, h3⟩ := ih v (by omega) hv
      refine ⟨fun i => if i = k then v else y i, fun i hi => ?_, ext y v h1 h2, ?_⟩
      · show (if i = k then v else y i) ≤ v
        split
        · exact Nat.le_refl _
        · exact h1 i (by omega)
      · rw [kcx]; omega
theorem z_lnds {g R : Nat → Nat} {n : Nat} (hn : n ≤ 8) (hR : Ri g R n) (hg : D4 g n) : z_bst g R 3 n + z_d0 g n = n := by
  have h1 := z_kept (y := z_ri g n) hR (z_ri_Rs g hn) n 3 (Nat.le_refl _) (fun i hi => by have := z_ri_D4 g hn i hi; omega)
  have h2 := z_kc_df g (z_ri g n) n
  have h3 := z_ri_df g hn
  obtain ⟨y, h4, h5, h6⟩ := z_made hR hg n 3 (Nat.le_refl _) (by decide)
  have h7 := z_kc_df g y n
  have h8 := z_d0_le (g := g) (y := y) (n := n) (fun i hi => by have := h4 i hi; omega) h5
  omega
-- the reference's loops
theorem z_bst_le {g R : Nat → Nat} {n : Nat} (hR : Ri g R n) : ∀ (k v : Nat), k ≤ n → z_bst g R v k ≤ k := by
  intro k
  induction k with
  | zero => intro v _; exact Nat.le_refl _
  | succ k ih =>
    intro v hk
    rw [z_bst_s]
    have h1 := ih v (by omega)
    have h2 := ih (g k) (by omega)
    have h3 := hR k (by omega)
    split <;> omega
/-- the longest by place, made upward -/
def z_R (g : Nat → Nat) : Nat → Nat → Nat
  | 0, _ => 0
  | k + 1, i => if i = k then z_bst g (z_R g k) (g k) k + 1 else z_R g k i
theorem z_R_st (g : Nat → Nat) : ∀ (k m i : Nat), i < k → k ≤ m → z_R g m i = z_R g k i := by
  intro k m
  induction m with
  | zero => intro i h1 h2; omega
  | succ m ih =>
    intro i h1 h2
    by_cases e : k = m + 1
    · subst e; rfl
    · show (if i = m then z_bst g (z_R g m) (g m) m + 1 else z_R g m i) = _
      rw [if_neg (by omega)]
      exact ih i h1 (by omega)
theorem z_R_Ri (g : Nat → Nat) (n : Nat) : Ri g (z_R g n) n := by
  intro j hj
  rw [z_R_st g (j + 1) n j (by omega) (by omega)]
  show (if j = j then z_bst g (z_R g j) (g j) j + 1 else z_R g j j) = _
  rw [if_pos rfl]
  congr 1
  exact z_bst_congr (fun i hi => (z_R_st g j n i hi (by omega)).symm)
theorem m_fromRising {n : Nat} {f : Nat → Int32} {g : Nat → Nat} (hn : n ≤ 8) (hf : Rg f g n) (u : Nat → Int32) : ∃ u', fX5_fromRising (nI n) f u = some (nI (z_d0 g n), u') := by
  have hR := z_R_Ri g n
  have hg : D4 g n := fun i hi => (hf i hi).1
  have hl := z_lnds hn hR hg
  generalize z_R g n = R at hR hl
  have lR : ∀ j, j < n → R j ≤ 9 := fun j hj => by have h1 := hR j hj; have h2 := z_bst_le hR j (g j) (by omega); omega
  have inner : ∀ (j : Nat) (u : Nat → Int32), j < n → (∀ i, i < j → u i = nI (R i)) → ∃ u', fX5_fromRising_L21 FU (nI j) (nI 0) f (upd u j (1 : Int32)) = some (nI j, u') ∧ ∀ i, i < j + 1 → u' i = nI (R i) := by
    intro j u hj hu
    have key : ∀ (d k fuel : Nat) (w : Nat → Int32), k + d = j → d < fuel → (∀ i, i < j → w i = nI (R i)) → w j = nI (z_bst g R (g j) k + 1) → ∃ u', fX5_fromRising_L21 fuel (nI j) (nI k) f w = some (nI j, u') ∧ ∀ i, i < j + 1 → u' i = nI (R i) := by
      intro d
      induction d with
      | zero =>
        intro k fuel w hk hf2 h1 h2
        have ek : k = j := by omega
        subst ek
        cases fuel with
        | zero => omega
        | succ fuel =>
          rw [fX5_fromRising_L21_s, if_pos (nI_le (Nat.le_refl k) (by omega))]
          refine ⟨w, rfl, fun i hi => ?_⟩
          by_cases e : i = k
          · subst e; rw [h2, hR i hj]
          · exact h1 i (by omega)
      | succ d ih =>
        intro k fuel w hk hf2 h1 h2
        cases fuel with
        | zero => omega
        | succ fuel =>
          have b1 := hf k (by omega)
          have b2 := hf j hj
          have l1 := lR k (by omega)
          have l2 := z_bst_le hR k (g j) (by omega)
          have c : ¬ nI j ≤ nI k := nI_ge (by omega) (by omega)
          have ee : z_bst g R (g j) (k + 1) = if g k ≤ g j ∧ z_bst g R (g j) k < R k then R k else z_bst g R (g j) k := rfl
          have w1 : ∀ x : Int32, ∀ i, i < j → upd w j x i = nI (R i) := fun x i hi => by rw [pk_un (by omega)]; exact h1 i hi
          rw [fX5_fromRising_L21_s, if_neg c, gin_nI (by omega) (by decide), gin_nI (by omega) (by decide), nI_clamp (by omega), nI_clamp (by omega), b1.2, b2.2, nI_1']
          by_cases e : g k ≤ g j
          · rw [if_neg (nI_nlt e (by omega)), gin_nI (by omega) (by decide), gin_nI (by omega) (by decide), h1 k (by omega), h2, nI_1']
            by_cases e2 : z_bst g R (g j) k < R k
            · rw [if_neg (nI_ge (by omega) (by omega)), gin_nI (by omega) (by decide), gin_nI (by omega) (by decide)]
              exact ih (k + 1) fuel _ (by omega) (by omega) (w1 _) (by rw [pk_us, ee, if_pos ⟨e, e2⟩])
            · rw [if_pos (nI_le (by omega) (by omega)), gin_nI (by omega) (by decide), gin_nI (by omega) (by decide)]
              exact ih (k + 1) fuel _ (by omega) (by omega) (w1 _) (by rw [pk_us, ee, if_neg (fun z => e2 z.2)])
          · rw [if_pos (nI_lt (by omega) (by omega)), gin_nI (by omega) (by decide), gin_nI (by omega) (by decide)]
            exact ih (k + 1) fuel _ (by omega) (by omega) (w1 _) (by rw [pk_us, h2, ee, if_neg (fun z => e z.1)])
    exact key j 0 FU _ (by omega) (by unfold FU; omega) (fun i hi => by rw [pk_un (by omega)]; exact hu i hi) (by rw [pk_us]; rfl)
  have outer : ∀ (d j fuel : Nat) (u : Nat → Int32), j + d = n → d < fuel → (∀ i, i < j → u i = nI (R i)) → ∃ u', fX5_fromRising_L4 fuel (nI (z_bst g R 3 j)) (nI j) (nI n) f u = some (nI (z_bst g R 3 n), nI n, u') := by
    intro d
    induction d with
    | zero =>
      intro j fuel u hj hfu hu
      have ej : j = n := by omega
      subst ej
      cases fuel with
      | zero => omega
      | succ fuel =>
        rw [fX5_fromRising_L4_s, if_pos (nI_le (Nat.le_refl j) (by omega))]
        exact ⟨u, rfl⟩
    | succ d ih =>
      intro j fuel u hj hfu hu
      cases fuel with
      | zero => omega
      | succ fuel =>
        have c : ¬ nI n ≤ nI j := nI_ge (by omega) (by omega)
        obtain ⟨u1, h1, h2⟩ := inner j u (by omega) hu
        have l1 := lR j (by omega)
        have l2 := z_bst_le hR j 3 (by omega)
        have b1 := hg j (by omega)
        have ee : z_bst g R 3 (j + 1) = if g j ≤ 3 ∧ z_bst g R 3 j < R j then R j else z_bst g R 3 j := rfl
        rw [fX5_fromRising_L4_s, if_neg c, gin_nI (by omega) (by decide), nI_clamp (by omega), show (0 : Int32) = nI 0 from rfl, bd_of h1, gin_nI (by omega) (by decide), nI_1']
        show ∃ u', (if u1 j ≤ nI (z_bst g R 3 j) then fX5_fromRising_L4 fuel (nI (z_bst g R 3 j)) (nI (j + 1)) (nI n) f u1 else gin (nI j) 8 (fX5_fromRising_L4 fuel (u1 j) (nI (j + 1)) (nI n) f u1)) = some (nI (z_bst g R 3 n), nI n, u')
        rw [h2 j (by omega)]
        by_cases e : z_bst g R 3 j < R j
        · rw [if_neg (nI_ge e (by omega)), gin_nI (by omega) (by decide)]
          have := ih (j + 1) fuel u1 (by omega) (by omega) h2
          rw [ee, if_pos ⟨by omega, e⟩] at this
          exact this
        · rw [if_pos (nI_le (by omega) (by omega))]
          have := ih (j + 1) fuel u1 (by omega) (by omega) h2
          rw [ee, if_neg (fun z => e z.2)] at this
          exact this
  obtain ⟨u', h⟩ := outer n 0 FU u (by omega) (by unfold FU; omega) (fun i hi => by omega)
  refine ⟨u', ?_⟩
  unfold fX5_fromRising
  refine (bd_of h).trans ?_
  show some (nI n - nI (z_bst g R 3 n), u') = _
  rw [nI_sub' (by omega), show n - z_bst g R 3 n = z_d0 g n by omega]
