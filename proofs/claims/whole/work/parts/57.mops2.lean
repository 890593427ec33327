/-! is, distance, nearest, mend -/
theorem subj_cases (p : Int32) : (fX4_isSubject p = some 0 ∧ fX5_isSubject p = some 0) ∨ (fX4_isSubject p = some 1 ∧ fX5_isSubject p = some 1 ∧ ∃ s, s < 6 ∧ p = nI s) := by
  unfold fX4_isSubject fX5_isSubject
  rcases in_cases p 0 5 with ⟨w1, w2⟩ | ⟨w1, w2, h3, h4⟩
  · exact Or.inl ⟨by rw [w1, bd_s], by rw [w2, bd_s]⟩
  · obtain ⟨j, j1, j2, rfl⟩ := in_rng 0 5 h3 h4 (by decide) (by decide)
    exact Or.inr ⟨by rw [w1, bd_s], by rw [w2, bd_s], j, by omega, rfl⟩
theorem row_of {s : Nat} (h : s < 4) : fX4_isRow (nI s) = some 1 := by
  rcases (show s = 0 ∨ s = 1 ∨ s = 2 ∨ s = 3 by omega) with rfl | rfl | rfl | rfl <;> decide +kernel
theorem row_not {s : Nat} (h : 4 ≤ s) (h6 : s < 6) : fX4_isRow (nI s) = some 0 := by
  rcases (show s = 4 ∨ s = 5 by omega) with rfl | rfl <;> decide +kernel
noncomputable def z_ds (s n B : Nat) (g J : Nat → Nat) : Nat := if s < 4 then z_fk s g n else if s = 4 then z_tf B (z_am (z_tf B) 8) else z_far J 63 (z_bc J 63)
theorem z_amtf_lt (B : Nat) : z_am (z_tf B) 8 < 8 := by
  have : z_am (z_tf B) 8 ≤ 7 := z_am_le (z_tf B) 7
  omega
theorem m_bestColouring {f : Nat → Int32} {J : Nat → Nat} (hN : Nt f J) (hs : Sy J) : fX1_bestColouring f = some (nI (z_bc J 63)) := by
  unfold fX1_bestColouring
  rw [show (63 : Int32) = nI 63 from rfl, bd_of (m_bestColouringOf hN hs (by decide))]
theorem m_howFar {n B s : Nat} {g J : Nat → Nat} {rd nd gd c ej : Nat → Int32} (ns gs : Int32) (h2 : 2 ≤ n) (hn : n ≤ 8) (hR : Rg rd g n) (hB : B < 256) (hN : Nt ej J) (hs : Sy J) (h6 : s < 6) : ∃ r : Int32 × Int32 × (Nat → Int32) × Int32 × (Nat → Int32) × (Nat → Int32), fX4_howFar (nI n) rd ns nd gs gd c (nI B) ej (nI s) = some r ∧ r.1 = nI (z_ds s n B g J) ∧ (s < 4 → r.2.1 = nI n ∧ ∃ h, Rg r.2.2.1 h n ∧ Near (fun y => z_fk s y n) g h n) := by
  unfold fX4_howFar z_ds
  by_cases q : s < 4
  · obtain ⟨r, h, h1, h3, h4, h5, h7⟩ := m_seek (nd := nd) (gd := gd) (c := c) ns gs h2 hn q hR
    refine ⟨r, ?_, by rw [if_pos q]; exact h3, fun _ => ⟨h4, h, h5, h7⟩⟩
    rw [bd_of (row_of q), if_neg (by decide), bd_of h1]
  · rw [if_neg q, bd_of (row_not (by omega) h6), if_pos rfl]
    by_cases q4 : s = 4
    · subst q4
      rw [if_pos (by rfl), if_pos rfl, bd_of (m_closest hB), bd_of (m_tdiffering hB (z_amtf_lt B))]
      exact ⟨_, rfl, rfl, fun h => by omega⟩
    · have e5 : s = 5 := by omega
      subst e5
      rw [if_neg (by decide), if_neg (by decide), bd_of (m_bestColouring hN hs), show (63 : Int32) = nI 63 from rfl, bd_of (m_likeLines hN hs (by decide) (z_bc_lt J 63))]
      exact ⟨_, rfl, rfl, fun h => by omega⟩
theorem m_distanceOf {n B s : Nat} {g J : Nat → Nat} {fr fb fj : Nat → Int32} (fi fu : Nat → Int32) (h2 : 2 ≤ n) (hn : n ≤ 8) (hR : Rg fr g n) (hT : Tb fb B) (hN : Nt fj J) (h6 : s < 6) : ∃ r : Int32 × (Nat → Int32) × (Nat → Int32), fX5_distanceOf (nI n) fr fb fj fi fu (nI s) = some r ∧ r.1 = nI (z_ds s n B g J) := by
  unfold fX5_distanceOf z_ds
  by_cases q : s < 4
  · obtain ⟨it', u', h⟩ := m_rowDistance (fi := fi) (fu := fu) h2 hn q hR
    rw [if_pos q, if_neg (show ¬ (4 : Int32) ≤ nI s from nI_ge (a := s) (b := 4) q (by decide)), bd_of h]
    exact ⟨_, rfl, rfl⟩
  · rw [if_neg q, if_pos (show (4 : Int32) ≤ nI s from nI_le (a := 4) (b := s) (by omega) (by omega))]
    by_cases q4 : s = 4
    · subst q4
      rw [if_pos (by rfl), if_pos rfl, bd_of (m_nearestTable hT), bd_of (m_tableFar hT (z_amtf_lt B))]
      exact ⟨_, rfl, rfl⟩
    · have e5 : s = 5 := by omega
      subst e5
      rw [if_neg (by decide), if_neg (by decide), show (63 : Int32) = nI 63 from rfl, bd_of (m_nearestNet hN (by decide)), bd_of (m_netFar hN (by decide) (z_bc_lt J 63))]
      exact ⟨_, rfl, rfl⟩
theorem one_ne : ¬ (1 : Int32) = 0 := by decide
theorem five_ne : ¬ nI 5 = (4 : Int32) := by decide
theorem four_eq : nI 4 = (4 : Int32) := rfl
theorem op_is {vk rs : Int32} {rd : Nat → Int32} {bb : Int32} {ej : Nat → Int32} {vn vk' : Int32} {fr fb fj : Nat → Int32} (hI : Inv vk rs rd bb ej vn vk' fr fb fj) (ns : Int32) (nd : Nat → Int32) (gs : Int32) (gd c fi fu : Nat → Int32) (p : Int32) : ∃ rc rm, fX4_is rs rd ns nd gs gd c bb ej p = some rc ∧ fX5_is vn fr fb fj fi fu p = some rm ∧ rc.1 = rm.1 := by
  obtain ⟨n, k, B, g, J, ⟨h2, hn, rfl, rfl, hR, hR'⟩, hk, ⟨hB, rfl, hT⟩, hN, hN', hs⟩ := hI
  unfold fX4_is fX5_is
  rcases subj_cases p with ⟨w1, w2⟩ | ⟨w1, w2, s, h6, rfl⟩
  · exact ⟨_, _, by rw [bd_of w1, if_pos rfl], by rw [bd_of w2, if_pos rfl], rfl⟩
  · obtain ⟨r, e1, e2, -⟩ := m_howFar (nd := nd) (gd := gd) (c := c) ns gs h2 hn hR hB hN hs h6
    obtain ⟨r', e3, e4⟩ := m_distanceOf fi fu h2 hn hR' hT hN' h6
    rw [bd_of w1, if_neg one_ne, bd_of e1, e2, bd_of w2, if_neg one_ne, bd_of e3, e4]
    by_cases q : nI (z_ds s n B g J) = 0
    · rw [if_pos q, if_pos q]; exact ⟨_, _, rfl, rfl, rfl⟩
    · rw [if_neg q, if_neg q]; exact ⟨_, _, rfl, rfl, rfl⟩
theorem op_distance {vk rs : Int32} {rd : Nat → Int32} {bb : Int32} {ej : Nat → Int32} {vn vk' : Int32} {fr fb fj : Nat → Int32} (hI : Inv vk rs rd bb ej vn vk' fr fb fj) (ns : Int32) (nd : Nat → Int32) (gs : Int32) (gd c fi fu : Nat → Int32) (p : Int32) : ∃ rc rm, fX4_distance rs rd ns nd gs gd c bb ej p = some rc ∧ fX5_distance vn fr fb fj fi fu p = some rm ∧ rc.1 = rm.1 := by
  obtain ⟨n, k, B, g, J, ⟨h2, hn, rfl, rfl, hR, hR'⟩, hk, ⟨hB, rfl, hT⟩, hN, hN', hs⟩ := hI
  unfold fX4_distance fX5_distance
  rcases subj_cases p with ⟨w1, w2⟩ | ⟨w1, w2, s, h6, rfl⟩
  · exact ⟨_, _, by rw [bd_of w1, if_pos rfl], by rw [bd_of w2, if_pos rfl], rfl⟩
  · obtain ⟨r, e1, e2, -⟩ := m_howFar (nd := nd) (gd := gd) (c := c) ns gs h2 hn hR hB hN hs h6
    obtain ⟨r', e3, e4⟩ := m_distanceOf fi fu h2 hn hR' hT hN' h6
    rw [bd_of w1, if_neg one_ne, bd_of e1, bd_of w2, if_neg one_ne, bd_of e3]
    exact ⟨_, _, rfl, rfl, e2.trans e4.symm⟩
theorem op_nearest {vk rs : Int32} {rd : Nat → Int32} {bb : Int32} {ej : Nat → Int32} {vn vk' : Int32} {fr fb fj : Nat → Int32} (hI : Inv vk rs rd bb ej vn vk' fr fb fj) (ns : Int32) (nd : Nat → Int32) (gs : Int32) (gd c fi fu : Nat → Int32) (p q : Int32) : ∃ rc rm, fX4_nearest rs rd ns nd gs gd c bb ej p q = some rc ∧ fX5_nearest vn fr fb fj fi fu p q = some rm ∧ rc.1 = rm.1 := by
  obtain ⟨n, k, B, g, J, ⟨h2, hn, rfl, rfl, hR, hR'⟩, hk, ⟨hB, rfl, hT⟩, hN, hN', hs⟩ := hI
  unfold fX4_nearest fX5_nearest
  rcases subj_cases p with ⟨w1, w2⟩ | ⟨w1, w2, s, h6, rfl⟩
  · exact ⟨_, _, by rw [bd_of w1, if_pos rfl], by rw [bd_of w2, if_pos rfl], rfl⟩
  · rw [bd_of w1, if_neg one_ne, bd_of w2, if_neg one_ne]
    by_cases q4 : s < 4
    · rw [bd_of (row_of q4), if_neg one_ne, if_neg (show ¬ (4 : Int32) ≤ nI s from nI_ge (a := s) (b := 4) q4 (by decide))]
      rcases place_cases (by omega) hn q with ⟨v1, v2⟩ | ⟨v1, v2, i, hi, rfl⟩
      · rw [bd_of v1, if_pos rfl, bd_of v2, if_pos rfl]
        exact ⟨_, _, rfl, rfl, rfl⟩
      · obtain ⟨r, h, e1, e2, e3, e4, e5⟩ := m_seek (nd := nd) (gd := gd) (c := c) ns gs h2 hn q4 hR
        obtain ⟨it', u', e6, e7⟩ := m_findNearest (fi := fi) (fu := fu) h2 hn q4 hR' e5
        rw [bd_of v1, if_neg one_ne, bd_of e1, bd_of v2, if_neg one_ne, if_neg (show ¬ (4 : Int32) ≤ nI s from nI_ge (a := s) (b := 4) q4 (by decide)), bd_of e6, gin_nI (by omega) (by decide), gin_nI (by omega) (by decide), nI_clamp (by omega)]
        exact ⟨_, _, rfl, rfl, (e4 i hi).2.trans (e7 i hi).2.symm⟩
    · rw [bd_of (row_not (by omega) h6), if_pos rfl, if_pos (show (4 : Int32) ≤ nI s from nI_le (a := 4) (b := s) (by omega) (by omega))]
      by_cases qz : q = 0
      · rw [if_pos qz, if_pos qz, if_pos (show (4 : Int32) ≤ nI s from nI_le (a := 4) (b := s) (by omega) (by omega))]
        by_cases e4 : s = 4
        · subst e4
          rw [if_pos four_eq, if_pos four_eq, bd_of (m_closest hB), bd_of (m_nearestTable hT)]
          exact ⟨_, _, rfl, rfl, rfl⟩
        · have e5 : s = 5 := by omega
          subst e5
          rw [if_neg five_ne, if_neg five_ne, bd_of (m_bestColouring hN hs), show (63 : Int32) = nI 63 from rfl, bd_of (m_nearestNet hN' (by decide))]
          exact ⟨_, _, rfl, rfl, rfl⟩
      · rw [if_neg qz, if_neg qz]
        exact ⟨_, _, rfl, rfl, rfl⟩
theorem m_mend28 {n : Nat} (hn : n ≤ 8) (r i : Nat → Int32) : fX5_mend_L28 FU (0 : Int32) (nI n) r i = some (nI n, z_fl i r n) := by
  have h : fX5_mend_L28 FU (nI 0) (nI n) (z_fl i r 0) i = some (nI n, z_fl i r n) := lp_FU (fun fuel k => fX5_mend_L28 fuel (nI k) (nI n) (z_fl i r k) i) n _ (by omega) 0 (Nat.zero_le _)
    (by
      intro k fuel hk
      have c : ¬ nI n ≤ nI k := nI_ge hk (by omega)
      try dsimp only
      rw [fX5_mend_L28_s, if_neg c, gin_nI (by omega) (by decide), gin_nI (by omega) (by decide), nI_clamp (by omega), nI_1', z_fl_s])
    (by
      intro fuel
      try dsimp only
      rw [fX5_mend_L28_s, if_pos (nI_le (Nat.le_refl n) (by omega))])
  rw [z_fl_0] at h
  exact h
theorem op_mend {vk rs : Int32} {rd : Nat → Int32} {bb : Int32} {ej : Nat → Int32} {vn vk' : Int32} {fr fb fj : Nat → Int32} (hI : Inv vk rs rd bb ej vn vk' fr fb fj) (ns : Int32) (nd : Nat → Int32) (gs : Int32) (gd c fi fu : Nat → Int32) (p : Int32) : ∃ (rc : Int32 × Int32 × (Nat → Int32) × Int32 × (Nat → Int32) × Int32 × (Nat → Int32) × (Nat → Int32) × Int32 × (Nat → Int32)) (rm : Int32 × (Nat → Int32) × (Nat → Int32) × (Nat → Int32) × (Nat → Int32) × (Nat → Int32)), fX4_mend rs rd ns nd gs gd c bb ej p = some rc ∧ fX5_mend vn fr fb fj fi fu p = some rm ∧ rc.1 = rm.1 ∧ Inv vk rc.2.1 rc.2.2.1 rc.2.2.2.2.2.2.2.2.1 rc.2.2.2.2.2.2.2.2.2 vn vk' rm.2.1 rm.2.2.1 rm.2.2.2.1 := by
  have hI0 := hI
  obtain ⟨n, k, B, g, J, ⟨h2, hn, rfl, rfl, hR, hR'⟩, hk, ⟨hB, rfl, hT⟩, hN, hN', hs⟩ := hI
  unfold fX4_mend fX5_mend
  rcases subj_cases p with ⟨w1, w2⟩ | ⟨w1, w2, s, h6, rfl⟩
  · exact ⟨((-2 : Int32), nI n, rd, ns, nd, gs, gd, c, nI B, ej), ((-2 : Int32), fr, fb, fj, fi, fu), by rw [bd_of w1, if_pos rfl], by rw [bd_of w2, if_pos rfl], rfl, hI0⟩
  · obtain ⟨r, e1, e2, e3⟩ := m_howFar (nd := nd) (gd := gd) (c := c) ns gs h2 hn hR hB hN hs h6
    obtain ⟨r', e4, e5⟩ := m_distanceOf fi fu h2 hn hR' hT hN' h6
    rw [bd_of w1, if_neg one_ne, bd_of e1, bd_of w2, if_neg one_ne, bd_of e4]
    by_cases q4 : s < 4
    · obtain ⟨e6, h, e7, e8⟩ := e3 q4
      obtain ⟨it', u', e9, e10⟩ := m_findNearest (fi := r'.2.1) (fu := r'.2.2) h2 hn q4 hR' e8
      rw [bd_of (row_of q4), if_neg one_ne, if_neg (show ¬ (4 : Int32) ≤ nI s from nI_ge (a := s) (b := 4) q4 (by decide)), m_become, bd_s, bd_of e9]
      refine ⟨(r.1, r.2.1, z_fl r.2.2.1 rd 8, r.2.1, r.2.2.1, r.2.2.2.1, r.2.2.2.2.1, r.2.2.2.2.2, nI B, ej), (r'.1, z_fl it' fr n, fb, fj, it', u'), rfl, (bd_of (m_mend28 hn fr it')).trans rfl, e2.trans e5.symm, n, k, B, h, J, ⟨h2, hn, e6, rfl, Rg_fl hn e7, fun i hi => ?_⟩, hk, ⟨hB, rfl, hT⟩, hN, hN', hs⟩
      show h i < 4 ∧ z_fl it' fr n i = nI (h i)
      rw [z_fl_in hi]
      exact e10 i hi
    · rw [bd_of (row_not (by omega) h6), if_pos rfl, if_pos (show (4 : Int32) ≤ nI s from nI_le (a := 4) (b := s) (by omega) (by omega))]
      by_cases q5 : s = 4
      · subst q5
        obtain ⟨f', e6, e7⟩ := m_linear (f := fb) (z_amtf_lt B)
        rw [if_pos four_eq, if_pos four_eq, bd_of (m_closest hB), bd_of (m_parities_L (z_amtf_lt B)), bd_of (m_nearestTable hT), bd_of e6]
        exact ⟨(r.1, nI n, rd, r.2.1, r.2.2.1, r.2.2.2.1, r.2.2.2.2.1, r.2.2.2.2.2, nI (z_par (z_am (z_tf B) 8)), ej), (r'.1, fr, f', fj, r'.2.1, r'.2.2), rfl, rfl, e2.trans e5.symm, n, k, z_par (z_am (z_tf B) 8), g, J, ⟨h2, hn, rfl, rfl, hR, hR'⟩, hk, ⟨z_par_lt _ (z_amtf_lt B), rfl, e7⟩, hN, hN', hs⟩
      · have e5' : s = 5 := by omega
        subst e5'
        obtain ⟨f', e6, e7⟩ := m_cutLikeLines hN (z_bc_lt J 63)
        obtain ⟨r2, e8, e9⟩ := m_mendNet hN' (z_bc_lt J 63)
        rw [if_neg five_ne, if_neg five_ne, bd_of (m_bestColouring hN hs), bd_of e6, show (63 : Int32) = nI 63 from rfl, bd_of (m_nearestNet hN' (by decide)), bd_of e8]
        exact ⟨(r.1, nI n, rd, r.2.1, r.2.2.1, r.2.2.2.1, r.2.2.2.2.1, r.2.2.2.2.2, nI B, f'), (r'.1, fr, fb, r2.2, r'.2.1, r'.2.2), rfl, rfl, e2.trans e5.symm, n, k, B, g, z_cut J (z_bc J 63), ⟨h2, hn, rfl, rfl, hR, hR'⟩, hk, ⟨hB, rfl, hT⟩, e7, e9, z_cut_Sy (z_bc_lt J 63) hs⟩
