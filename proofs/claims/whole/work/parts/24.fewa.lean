noncomputable def fX4_within  (p0 : Int32) (p1 : Int32) (p2 : Int32) : Option (Int32) := if p0 < p1 then (some (0 : Int32)) else (if p2 < p0 then (some (0 : Int32)) else (some (1 : Int32)))
set_option maxHeartbeats 4000000 in
set_option maxRecDepth 100000 in
theorem c_X4_within (l : Launch) (dC : Nat → ClassId) (dI : Nat → Nat → Nat) (cy : ClassId)  (sz : Nat)  (p0 : Int32) (p1 : Int32) (p2 : Int32) (res : Int32) (h : fX4_within p0 p1 p2 = some res) : Met l yX4_within wsX4_within ({ frames := 0, cells := 0, slots := 0, locals := 0 }) (va_Pc [.int p0, .int p1, .int p2] (PW (dC, dI) cy sz [])) (va_Qi (fun (r : Int32) (_ : Unit) => r = res ∧ bo r) (QW (dC, dI) cy (va_A [] sz) []) (va_A [] sz)) 0 0 (va_A [] sz) := by
  refine Met.ofW (cc := cX4_within) (maxL := 3) (ret := (some .boolean)) (by decide) rfl ?_
  intro p e s m args below meth c s₁ B hml hv
  obtain ⟨rfl, hsz, hP, hK, hD0, hN⟩ := hv
  have hx := B.exec
  have hb := B.bytes
  have hr := B.returns
  have hts := atoms_spec (ws := wsX4_within) B.pre
  have hown : s.vm.findClass RX4 = some m.cls := findClass_of_methodNamed B.named
  have hlocks := B.notSynchronized
  subst hsz
  have hD := hD0.self (sz := s.heap.size)
  clear hD0
  generalize hAe : va_A [] s.heap.size = A at hD ⊢
  have hA : ∀ q : Nat, s.heap.size ≤ q → A q := fun q h => by rw [← hAe]; exact Or.inr h
  have hS : va_S A s.heap s.heap [] := va_S.rf
  have hl := lv_entry ([.int p0, .int p1, .int p2]) (n := 3) (Nat.le_of_ble_eq_true rfl)
  rw [lg_entry_eq]
  generalize (lg_sl ([.int p0, .int p1, .int p2]) ++ List.replicate (3 - (lg_sl ([.int p0, .int p1, .int p2])).length) Slot.unset).toArray = ls at hl ⊢
  replace hl : lv_has ls 3 [(0, .int p0), (1, .int p1), (2, .int p2)] := hl
  replace hP : va_P (dC, dI) vwCl [] s.heap := hP
  obtain ⟨locs, hlocs⟩ : ∃ lc : List Loc, lc = [] := ⟨_, rfl⟩
  rw [← hlocs] at hS ⊢
  obtain ⟨H, hH⟩ : ∃ H : Heap, H = s.heap := ⟨_, rfl⟩
  have hP2 := hP; rw [← hH] at hP2
  have hS2 : va_S A s.heap H locs := by rw [hH]; exact hS
  suffices hgo : W p l e (headSpec wsX4_within ({ frames := 0, cells := 0, slots := 0, locals := 0 })).room s m (([.int p0, .int p1, .int p2] : List Value).toArray) below meth c H locs 0 0 (MQ below (va_Qi (fun (r : Int32) (_ : Unit) => r = res ∧ bo r) (QW (dC, dI) cy A []) A) (([.int p0, .int p1, .int p2] : List Value).toArray) s 0 0 A) (F0 m 0 ls []) by rw [hH] at hgo; exact hgo
  replace hP := hP2
  replace hS := hS2
  clear hP2 hS2
  unfold fX4_within at h
  refine lv_iload_n hx hb dX4_within_0 rfl (lv_at hl 0 rfl) ?_
  refine lv_iload_n hx hb dX4_within_1 rfl (lv_at hl 1 rfl) ?_
  refine lv_icmp_lt (tgt := 14) hx hb dX4_within_2 (by decide) (fun c2 => ?_) (fun c2 => ?_)
  · rw [if_pos c2] at h
    refine lv_iconst (v := (0 : Int32)) hx hb dX4_within_14 (by decide) ?_
    have h0 := Option.some.inj h
    subst h0
    exact W.zret (ty := .boolean) hx hb hr bo_0 (fun t ht hW => ⟨⟨_, (), rfl, ⟨rfl, bo_0⟩, QW_mk hP hK hD ht hW⟩, hS.F ht⟩) hS.2.2 dX4_within_15
  · rw [if_neg c2] at h
    refine lv_iload_n hx hb dX4_within_5 rfl (lv_at hl 0 rfl) ?_
    refine lv_iload_n hx hb dX4_within_6 rfl (lv_at hl 2 rfl) ?_
    refine lv_icmp_gt (tgt := 14) hx hb dX4_within_7 (by decide) (fun c1 => ?_) (fun c1 => ?_)
    · rw [if_pos c1] at h
      refine lv_iconst (v := (0 : Int32)) hx hb dX4_within_14 (by decide) ?_
      have h0 := Option.some.inj h
      subst h0
      exact W.zret (ty := .boolean) hx hb hr bo_0 (fun t ht hW => ⟨⟨_, (), rfl, ⟨rfl, bo_0⟩, QW_mk hP hK hD ht hW⟩, hS.F ht⟩) hS.2.2 dX4_within_15
    · rw [if_neg c1] at h
      refine lv_iconst (v := (1 : Int32)) hx hb dX4_within_10 (by decide) ?_
      refine lv_goto (tgt := 15) hx hb dX4_within_11 (by decide) ?_
      have h0 := Option.some.inj h
      subst h0
      exact W.zret (ty := .boolean) hx hb hr bo_1 (fun t ht hW => ⟨⟨_, (), rfl, ⟨rfl, bo_1⟩, QW_mk hP hK hD ht hW⟩, hS.F ht⟩) hS.2.2 dX4_within_15

noncomputable def fX4_isSubject  (p0 : Int32) : Option (Int32) := bd (fX4_within p0 (0 : Int32) (5 : Int32)) fun r1 => some r1
set_option maxHeartbeats 4000000 in
set_option maxRecDepth 100000 in
theorem c_X4_isSubject (l : Launch) (dC : Nat → ClassId) (dI : Nat → Nat → Nat) (cy : ClassId)  (sz : Nat)  (p0 : Int32) (res : Int32) (h : fX4_isSubject p0 = some res) : Met l yX4_isSubject wsX4_isSubject ({ frames := 1, cells := 0, slots := 0, locals := 22 }) (va_Pc [.int p0] (PW (dC, dI) cy sz [])) (va_Qi (fun (r : Int32) (_ : Unit) => r = res ∧ bo r) (QW (dC, dI) cy (va_A [] sz) []) (va_A [] sz)) 0 0 (va_A [] sz) := by
  refine Met.ofW (cc := cX4_isSubject) (maxL := 1) (ret := (some .boolean)) (by decide) rfl ?_
  intro p e s m args below meth c s₁ B hml hv
  obtain ⟨rfl, hsz, hP, hK, hD0, hN⟩ := hv
  have hx := B.exec
  have hb := B.bytes
  have hr := B.returns
  have hts := atoms_spec (ws := wsX4_isSubject) B.pre
  have hown : s.vm.findClass RX4 = some m.cls := findClass_of_methodNamed B.named
  have hlocks := B.notSynchronized
  subst hsz
  have hD := hD0.self (sz := s.heap.size)
  clear hD0
  generalize hAe : va_A [] s.heap.size = A at hD ⊢
  have hA : ∀ q : Nat, s.heap.size ≤ q → A q := fun q h => by rw [← hAe]; exact Or.inr h
  have hS : va_S A s.heap s.heap [] := va_S.rf
  have hl := lv_entry ([.int p0]) (n := 1) (Nat.le_of_ble_eq_true rfl)
  rw [lg_entry_eq]
  generalize (lg_sl ([.int p0]) ++ List.replicate (1 - (lg_sl ([.int p0])).length) Slot.unset).toArray = ls at hl ⊢
  replace hl : lv_has ls 1 [(0, .int p0)] := hl
  replace hP : va_P (dC, dI) vwCl [] s.heap := hP
  obtain ⟨locs, hlocs⟩ : ∃ lc : List Loc, lc = [] := ⟨_, rfl⟩
  rw [← hlocs] at hS ⊢
  obtain ⟨H, hH⟩ : ∃ H : Heap, H = s.heap := ⟨_, rfl⟩
  have hP2 := hP; rw [← hH] at hP2
  have hS2 : va_S A s.heap H locs := by rw [hH]; exact hS
  suffices hgo : W p l e (headSpec wsX4_isSubject ({ frames := 1, cells := 0, slots := 0, locals := 22 })).room s m (([.int p0] : List Value).toArray) below meth c H locs 0 0 (MQ below (va_Qi (fun (r : Int32) (_ : Unit) => r = res ∧ bo r) (QW (dC, dI) cy A []) A) (([.int p0] : List Value).toArray) s 0 0 A) (F0 m 0 ls []) by rw [hH] at hgo; exact hgo
  replace hP := hP2
  replace hS := hS2
  clear hP2 hS2
  unfold fX4_isSubject at h
  refine lv_iload_n hx hb dX4_isSubject_0 rfl (lv_at hl 0 rfl) ?_
  refine lv_iconst (v := (0 : Int32)) hx hb dX4_isSubject_1 (by decide) ?_
  refine lv_iconst (v := (5 : Int32)) hx hb dX4_isSubject_2 (by decide) ?_
  obtain ⟨r1, hr1, h⟩ := bd_some h
  have hFc := va_free (wc := []) hD hS hA [] rfl
  refine va_calli (va_runS (As := [.int p0, .int (0 : Int32), .int (5 : Int32)]) (rest := []) ⟨hx, hb, hml, hown, hts⟩ (c_X4_within l dC dI cy  H.size  p0 (0 : Int32) (5 : Int32) r1 hr1) (va_cwS 3 hts gX4_isSubject_X4_within rfl rfl rfl (by decide +kernel) ⟨Nat.le_of_ble_eq_true rfl, Nat.le_of_ble_eq_true rfl⟩) ⟨PW_fb, PW_pre (hP.sub (ws' := []) [] rfl) hK (hD.sub [] (by decide) rfl) hN⟩ rfl rfl hl.1 rfl (lv_room (Nat.le_of_ble_eq_true rfl)) dX4_isSubject_3 ⟨Nat.zero_le _, Nat.zero_le _⟩) hS (fun q _ h => hFc q h) hFc (fun rz u t H locs ht hvm hw hB hz1 hk1 hS => ?_)
  obtain ⟨hP, hD⟩ := jn (wr := []) (w1 := []) (ws' := []) hP hD [] [] rfl rfl (by decide) (by decide) hk1 hFc hB ht [] rfl (by decide) rfl
  obtain ⟨hw, br1⟩ := hw
  replace hw := hw.symm
  subst hw
  clear hFc hB hk1 hz1 hvm
  have h0 := Option.some.inj h
  subst h0
  exact W.zret (ty := .boolean) hx hb hr br1 (fun t ht hW => ⟨⟨_, (), rfl, ⟨rfl, br1⟩, QW_mk hP hK hD ht hW⟩, hS.F ht⟩) hS.2.2 dX4_isSubject_6

noncomputable def fX4_isRow  (p0 : Int32) : Option (Int32) := bd (fX4_within p0 (0 : Int32) (3 : Int32)) fun r1 => some r1
set_option maxHeartbeats 4000000 in
set_option maxRecDepth 100000 in
theorem c_X4_isRow (l : Launch) (dC : Nat → ClassId) (dI : Nat → Nat → Nat) (cy : ClassId)  (sz : Nat)  (p0 : Int32) (res : Int32) (h : fX4_isRow p0 = some res) : Met l yX4_isRow wsX4_isRow ({ frames := 1, cells := 0, slots := 0, locals := 22 }) (va_Pc [.int p0] (PW (dC, dI) cy sz [])) (va_Qi (fun (r : Int32) (_ : Unit) => r = res ∧ bo r) (QW (dC, dI) cy (va_A [] sz) []) (va_A [] sz)) 0 0 (va_A [] sz) := by
  refine Met.ofW (cc := cX4_isRow) (maxL := 1) (ret := (some .boolean)) (by decide) rfl ?_
  intro p e s m args below meth c s₁ B hml hv
  obtain ⟨rfl, hsz, hP, hK, hD0, hN⟩ := hv
  have hx := B.exec
  have hb := B.bytes
  have hr := B.returns
  have hts := atoms_spec (ws := wsX4_isRow) B.pre
  have hown : s.vm.findClass RX4 = some m.cls := findClass_of_methodNamed B.named
  have hlocks := B.notSynchronized
  subst hsz
  have hD := hD0.self (sz := s.heap.size)
  clear hD0
  generalize hAe : va_A [] s.heap.size = A at hD ⊢
  have hA : ∀ q : Nat, s.heap.size ≤ q → A q := fun q h => by rw [← hAe]; exact Or.inr h
  have hS : va_S A s.heap s.heap [] := va_S.rf
  have hl := lv_entry ([.int p0]) (n := 1) (Nat.le_of_ble_eq_true rfl)
  rw [lg_entry_eq]
  generalize (lg_sl ([.int p0]) ++ List.replicate (1 - (lg_sl ([.int p0])).length) Slot.unset).toArray = ls at hl ⊢
  replace hl : lv_has ls 1 [(0, .int p0)] := hl
  replace hP : va_P (dC, dI) vwCl [] s.heap := hP
  obtain ⟨locs, hlocs⟩ : ∃ lc : List Loc, lc = [] := ⟨_, rfl⟩
  rw [← hlocs] at hS ⊢
  obtain ⟨H, hH⟩ : ∃ H : Heap, H = s.heap := ⟨_, rfl⟩
  have hP2 := hP; rw [← hH] at hP2
  have hS2 : va_S A s.heap H locs := by rw [hH]; exact hS
  suffices hgo : W p l e (headSpec wsX4_isRow ({ frames := 1, cells := 0, slots := 0, locals := 22 })).room s m (([.int p0] : List Value).toArray) below meth c H locs 0 0 (MQ below (va_Qi (fun (r : Int32) (_ : Unit) => r = res ∧ bo r) (QW (dC, dI) cy A []) A) (([.int p0] : List Value).toArray) s 0 0 A) (F0 m 0 ls []) by rw [hH] at hgo; exact hgo
  replace hP := hP2
  replace hS := hS2
  clear hP2 hS2
  unfold fX4_isRow at h
  refine lv_iload_n hx hb dX4_isRow_0 rfl (lv_at hl 0 rfl) ?_
  refine lv_iconst (v := (0 : Int32)) hx hb dX4_isRow_1 (by decide) ?_
  refine lv_iconst (v := (3 : Int32)) hx hb dX4_isRow_2 (by decide) ?_
  obtain ⟨r1, hr1, h⟩ := bd_some h
  have hFc := va_free (wc := []) hD hS hA [] rfl
  refine va_calli (va_runS (As := [.int p0, .int (0 : Int32), .int (3 : Int32)]) (rest := []) ⟨hx, hb, hml, hown, hts⟩ (c_X4_within l dC dI cy  H.size  p0 (0 : Int32) (3 : Int32) r1 hr1) (va_cwS 3 hts gX4_isRow_X4_within rfl rfl rfl (by decide +kernel) ⟨Nat.le_of_ble_eq_true rfl, Nat.le_of_ble_eq_true rfl⟩) ⟨PW_fb, PW_pre (hP.sub (ws' := []) [] rfl) hK (hD.sub [] (by decide) rfl) hN⟩ rfl rfl hl.1 rfl (lv_room (Nat.le_of_ble_eq_true rfl)) dX4_isRow_3 ⟨Nat.zero_le _, Nat.zero_le _⟩) hS (fun q _ h => hFc q h) hFc (fun rz u t H locs ht hvm hw hB hz1 hk1 hS => ?_)
  obtain ⟨hP, hD⟩ := jn (wr := []) (w1 := []) (ws' := []) hP hD [] [] rfl rfl (by decide) (by decide) hk1 hFc hB ht [] rfl (by decide) rfl
  obtain ⟨hw, br1⟩ := hw
  replace hw := hw.symm
  subst hw
  clear hFc hB hk1 hz1 hvm
  have h0 := Option.some.inj h
  subst h0
  exact W.zret (ty := .boolean) hx hb hr br1 (fun t ht hW => ⟨⟨_, (), rfl, ⟨rfl, br1⟩, QW_mk hP hK hD ht hW⟩, hS.F ht⟩) hS.2.2 dX4_isRow_6

noncomputable def fX4_isEntry  (p0 : Int32) : Option (Int32) := bd (fX4_within p0 (0 : Int32) (7 : Int32)) fun r1 => some r1
set_option maxHeartbeats 4000000 in
set_option maxRecDepth 100000 in
theorem c_X4_isEntry (l : Launch) (dC : Nat → ClassId) (dI : Nat → Nat → Nat) (cy : ClassId)  (sz : Nat)  (p0 : Int32) (res : Int32) (h : fX4_isEntry p0 = some res) : Met l yX4_isEntry wsX4_isEntry ({ frames := 1, cells := 0, slots := 0, locals := 22 }) (va_Pc [.int p0] (PW (dC, dI) cy sz [])) (va_Qi (fun (r : Int32) (_ : Unit) => r = res ∧ bo r) (QW (dC, dI) cy (va_A [] sz) []) (va_A [] sz)) 0 0 (va_A [] sz) := by
  refine Met.ofW (cc := cX4_isEntry) (maxL := 1) (ret := (some .boolean)) (by decide) rfl ?_
  intro p e s m args below meth c s₁ B hml hv
  obtain ⟨rfl, hsz, hP, hK, hD0, hN⟩ := hv
  have hx := B.exec
  have hb := B.bytes
  have hr := B.returns
  have hts := atoms_spec (ws := wsX4_isEntry) B.pre
  have hown : s.vm.findClass RX4 = some m.cls := findClass_of_methodNamed B.named
  have hlocks := B.notSynchronized
  subst hsz
  have hD := hD0.self (sz := s.heap.size)
  clear hD0
  generalize hAe : va_A [] s.heap.size = A at hD ⊢
  have hA : ∀ q : Nat, s.heap.size ≤ q → A q := fun q h => by rw [← hAe]; exact Or.inr h
  have hS : va_S A s.heap s.heap [] := va_S.rf
  have hl := lv_entry ([.int p0]) (n := 1) (Nat.le_of_ble_eq_true rfl)
  rw [lg_entry_eq]
  generalize (lg_sl ([.int p0]) ++ List.replicate (1 - (lg_sl ([.int p0])).length) Slot.unset).toArray = ls at hl ⊢
  replace hl : lv_has ls 1 [(0, .int p0)] := hl
  replace hP : va_P (dC, dI) vwCl [] s.heap := hP
  obtain ⟨locs, hlocs⟩ : ∃ lc : List Loc, lc = [] := ⟨_, rfl⟩
  rw [← hlocs] at hS ⊢
  obtain ⟨H, hH⟩ : ∃ H : Heap, H = s.heap := ⟨_, rfl⟩
  have hP2 := hP; rw [← hH] at hP2
  have hS2 : va_S A s.heap H locs := by rw [hH]; exact hS
  suffices hgo : W p l e (headSpec wsX4_isEntry ({ frames := 1, cells := 0, slots := 0, locals := 22 })).room s m (([.int p0] : List Value).toArray) below meth c H locs 0 0 (MQ below (va_Qi (fun (r : Int32) (_ : Unit) => r = res ∧ bo r) (QW (dC, dI) cy A []) A) (([.int p0] : List Value).toArray) s 0 0 A) (F0 m 0 ls []) by rw [hH] at hgo; exact hgo
  replace hP := hP2
  replace hS := hS2
  clear hP2 hS2
  unfold fX4_isEntry at h
  refine lv_iload_n hx hb dX4_isEntry_0 rfl (lv_at hl 0 rfl) ?_
  refine lv_iconst (v := (0 : Int32)) hx hb dX4_isEntry_1 (by decide) ?_
  refine lv_bipush (v := (7 : Int32)) hx hb dX4_isEntry_2 (by decide) ?_
  obtain ⟨r1, hr1, h⟩ := bd_some h
  have hFc := va_free (wc := []) hD hS hA [] rfl
  refine va_calli (va_runS (As := [.int p0, .int (0 : Int32), .int (7 : Int32)]) (rest := []) ⟨hx, hb, hml, hown, hts⟩ (c_X4_within l dC dI cy  H.size  p0 (0 : Int32) (7 : Int32) r1 hr1) (va_cwS 3 hts gX4_isEntry_X4_within rfl rfl rfl (by decide +kernel) ⟨Nat.le_of_ble_eq_true rfl, Nat.le_of_ble_eq_true rfl⟩) ⟨PW_fb, PW_pre (hP.sub (ws' := []) [] rfl) hK (hD.sub [] (by decide) rfl) hN⟩ rfl rfl hl.1 rfl (lv_room (Nat.le_of_ble_eq_true rfl)) dX4_isEntry_4 ⟨Nat.zero_le _, Nat.zero_le _⟩) hS (fun q _ h => hFc q h) hFc (fun rz u t H locs ht hvm hw hB hz1 hk1 hS => ?_)
  obtain ⟨hP, hD⟩ := jn (wr := []) (w1 := []) (ws' := []) hP hD [] [] rfl rfl (by decide) (by decide) hk1 hFc hB ht [] rfl (by decide) rfl
  obtain ⟨hw, br1⟩ := hw
  replace hw := hw.symm
  subst hw
  clear hFc hB hk1 hz1 hvm
  have h0 := Option.some.inj h
  subst h0
  exact W.zret (ty := .boolean) hx hb hr br1 (fun t ht hW => ⟨⟨_, (), rfl, ⟨rfl, br1⟩, QW_mk hP hK hD ht hW⟩, hS.F ht⟩) hS.2.2 dX4_isEntry_7

noncomputable def fX4_isPoint  (p0 : Int32) : Option (Int32) := bd (fX4_within p0 (0 : Int32) (5 : Int32)) fun r1 => some r1
set_option maxHeartbeats 4000000 in
set_option maxRecDepth 100000 in
theorem c_X4_isPoint (l : Launch) (dC : Nat → ClassId) (dI : Nat → Nat → Nat) (cy : ClassId)  (sz : Nat)  (p0 : Int32) (res : Int32) (h : fX4_isPoint p0 = some res) : Met l yX4_isPoint wsX4_isPoint ({ frames := 1, cells := 0, slots := 0, locals := 22 }) (va_Pc [.int p0] (PW (dC, dI) cy sz [])) (va_Qi (fun (r : Int32) (_ : Unit) => r = res ∧ bo r) (QW (dC, dI) cy (va_A [] sz) []) (va_A [] sz)) 0 0 (va_A [] sz) := by
  refine Met.ofW (cc := cX4_isPoint) (maxL := 1) (ret := (some .boolean)) (by decide) rfl ?_
  intro p e s m args below meth c s₁ B hml hv
  obtain ⟨rfl, hsz, hP, hK, hD0, hN⟩ := hv
  have hx := B.exec
  have hb := B.bytes
  have hr := B.returns
  have hts := atoms_spec (ws := wsX4_isPoint) B.pre
  have hown : s.vm.findClass RX4 = some m.cls := findClass_of_methodNamed B.named
  have hlocks := B.notSynchronized
  subst hsz
  have hD := hD0.self (sz := s.heap.size)
  clear hD0
  generalize hAe : va_A [] s.heap.size = A at hD ⊢
  have hA : ∀ q : Nat, s.heap.size ≤ q → A q := fun q h => by rw [← hAe]; exact Or.inr h
  have hS : va_S A s.heap s.heap [] := va_S.rf
  have hl := lv_entry ([.int p0]) (n := 1) (Nat.le_of_ble_eq_true rfl)
  rw [lg_entry_eq]
  generalize (lg_sl ([.int p0]) ++ List.replicate (1 - (lg_sl ([.int p0])).length) Slot.unset).toArray = ls at hl ⊢
  replace hl : lv_has ls 1 [(0, .int p0)] := hl
  replace hP : va_P (dC, dI) vwCl [] s.heap := hP
  obtain ⟨locs, hlocs⟩ : ∃ lc : List Loc, lc = [] := ⟨_, rfl⟩
  rw [← hlocs] at hS ⊢
  obtain ⟨H, hH⟩ : ∃ H : Heap, H = s.heap := ⟨_, rfl⟩
  have hP2 := hP; rw [← hH] at hP2
  have hS2 : va_S A s.heap H locs := by rw [hH]; exact hS
  suffices hgo : W p l e (headSpec wsX4_isPoint ({ frames := 1, cells := 0, slots := 0, locals := 22 })).room s m (([.int p0] : List Value).toArray) below meth c H locs 0 0 (MQ below (va_Qi (fun (r : Int32) (_ : Unit) => r = res ∧ bo r) (QW (dC, dI) cy A []) A) (([.int p0] : List Value).toArray) s 0 0 A) (F0 m 0 ls []) by rw [hH] at hgo; exact hgo
  replace hP := hP2
  replace hS := hS2
  clear hP2 hS2
  unfold fX4_isPoint at h
  refine lv_iload_n hx hb dX4_isPoint_0 rfl (lv_at hl 0 rfl) ?_
  refine lv_iconst (v := (0 : Int32)) hx hb dX4_isPoint_1 (by decide) ?_
  refine lv_iconst (v := (5 : Int32)) hx hb dX4_isPoint_2 (by decide) ?_
  obtain ⟨r1, hr1, h⟩ := bd_some h
  have hFc := va_free (wc := []) hD hS hA [] rfl
  refine va_calli (va_runS (As := [.int p0, .int (0 : Int32), .int (5 : Int32)]) (rest := []) ⟨hx, hb, hml, hown, hts⟩ (c_X4_within l dC dI cy  H.size  p0 (0 : Int32) (5 : Int32) r1 hr1) (va_cwS 3 hts gX4_isPoint_X4_within rfl rfl rfl (by decide +kernel) ⟨Nat.le_of_ble_eq_true rfl, Nat.le_of_ble_eq_true rfl⟩) ⟨PW_fb, PW_pre (hP.sub (ws' := []) [] rfl) hK (hD.sub [] (by decide) rfl) hN⟩ rfl rfl hl.1 rfl (lv_room (Nat.le_of_ble_eq_true rfl)) dX4_isPoint_3 ⟨Nat.zero_le _, Nat.zero_le _⟩) hS (fun q _ h => hFc q h) hFc (fun rz u t H locs ht hvm hw hB hz1 hk1 hS => ?_)
  obtain ⟨hP, hD⟩ := jn (wr := []) (w1 := []) (ws' := []) hP hD [] [] rfl rfl (by decide) (by decide) hk1 hFc hB ht [] rfl (by decide) rfl
  obtain ⟨hw, br1⟩ := hw
  replace hw := hw.symm
  subst hw
  clear hFc hB hk1 hz1 hvm
  have h0 := Option.some.inj h
  subst h0
  exact W.zret (ty := .boolean) hx hb hr br1 (fun t ht hW => ⟨⟨_, (), rfl, ⟨rfl, br1⟩, QW_mk hP hK hD ht hW⟩, hS.F ht⟩) hS.2.2 dX4_isPoint_6

noncomputable def fX4_isPlace (vxrs : Int32) (p0 : Int32) : Option (Int32) := bd (fX4_within p0 (0 : Int32) (vxrs - (1 : Int32))) fun r1 => some r1
set_option maxHeartbeats 4000000 in
set_option maxRecDepth 100000 in
theorem c_X4_isPlace (l : Launch) (dC : Nat → ClassId) (dI : Nat → Nat → Nat) (cy : ClassId) (ax axr axt axm axb axe axrd : Nat) (sz : Nat) (vxk : Int32) (vxrs : Int32) (p0 : Int32) (res : Int32) (h : fX4_isPlace vxrs p0 = some res) : Met l yX4_isPlace wsX4_isPlace ({ frames := 1, cells := 0, slots := 0, locals := 22 }) (va_Pc [.ref ax, .int p0] (PW (dC, dI) cy sz [(ax, .inr (4, [.ref axr, .ref axt, .ref axm, .ref axb, .ref axe, .int vxk])), (axr, .inr (2, [.ref axrd, .int vxrs]))])) (va_Qi (fun (r : Int32) (_ : Unit) => r = res ∧ bo r) (QW (dC, dI) cy (va_A [(ax, .inr (4, [.ref axr, .ref axt, .ref axm, .ref axb, .ref axe, .int vxk])), (axr, .inr (2, [.ref axrd, .int vxrs]))] sz) [(ax, .inr (4, [.ref axr, .ref axt, .ref axm, .ref axb, .ref axe, .int vxk])), (axr, .inr (2, [.ref axrd, .int vxrs]))]) (va_A [(ax, .inr (4, [.ref axr, .ref axt, .ref axm, .ref axb, .ref axe, .int vxk])), (axr, .inr (2, [.ref axrd, .int vxrs]))] sz)) 0 0 (va_A [(ax, .inr (4, [.ref axr, .ref axt, .ref axm, .ref axb, .ref axe, .int vxk])), (axr, .inr (2, [.ref axrd, .int vxrs]))] sz) := by
  refine Met.ofW (cc := cX4_isPlace) (maxL := 2) (ret := (some .boolean)) (by decide) rfl ?_
  intro p e s m args below meth c s₁ B hml hv
  obtain ⟨rfl, hsz, hP, hK, hD0, hN⟩ := hv
  have hx := B.exec
  have hb := B.bytes
  have hr := B.returns
  have hts := atoms_spec (ws := wsX4_isPlace) B.pre
  have hown : s.vm.findClass RX4 = some m.cls := findClass_of_methodNamed B.named
  have hlocks := B.notSynchronized
  subst hsz
  have hD := hD0.self (sz := s.heap.size)
  clear hD0
  generalize hAe : va_A [(ax, .inr (4, [.ref axr, .ref axt, .ref axm, .ref axb, .ref axe, .int vxk])), (axr, .inr (2, [.ref axrd, .int vxrs]))] s.heap.size = A at hD ⊢
  have hA : ∀ q : Nat, s.heap.size ≤ q → A q := fun q h => by rw [← hAe]; exact Or.inr h
  have hS : va_S A s.heap s.heap [] := va_S.rf
  have hl := lv_entry ([.ref ax, .int p0]) (n := 2) (Nat.le_of_ble_eq_true rfl)
  rw [lg_entry_eq]
  generalize (lg_sl ([.ref ax, .int p0]) ++ List.replicate (2 - (lg_sl ([.ref ax, .int p0])).length) Slot.unset).toArray = ls at hl ⊢
  replace hl : lv_has ls 2 [(0, .ref ax), (1, .int p0)] := hl
  replace hP : va_P (dC, dI) vwCl [(ax, .inr (4, [.ref axr, .ref axt, .ref axm, .ref axb, .ref axe, .int vxk])), (axr, .inr (2, [.ref axrd, .int vxrs]))] s.heap := hP
  obtain ⟨locs, hlocs⟩ : ∃ lc : List Loc, lc = [] := ⟨_, rfl⟩
  rw [← hlocs] at hS ⊢
  obtain ⟨H, hH⟩ : ∃ H : Heap, H = s.heap := ⟨_, rfl⟩
  have hP2 := hP; rw [← hH] at hP2
  have hS2 : va_S A s.heap H locs := by rw [hH]; exact hS
  suffices hgo : W p l e (headSpec wsX4_isPlace ({ frames := 1, cells := 0, slots := 0, locals := 22 })).room s m (([.ref ax, .int p0] : List Value).toArray) below meth c H locs 0 0 (MQ below (va_Qi (fun (r : Int32) (_ : Unit) => r = res ∧ bo r) (QW (dC, dI) cy A [(ax, .inr (4, [.ref axr, .ref axt, .ref axm, .ref axb, .ref axe, .int vxk])), (axr, .inr (2, [.ref axrd, .int vxrs]))]) A) (([.ref ax, .int p0] : List Value).toArray) s 0 0 A) (F0 m 0 ls []) by rw [hH] at hgo; exact hgo
  replace hP := hP2
  replace hS := hS2
  clear hP2 hS2
  have hin_X2 : ∀ w ∈ wsX20, w ∈ wsX4_isPlace := by decide +kernel
  have hin_X4 : ∀ w ∈ wsX40, w ∈ wsX4_isPlace := by decide +kernel
  have hf_10 := hts (.fieldLink RX4 10 "FewLooks" "row" "LFewLooks$Row;") (by decide +kernel)
  unfold fX4_isPlace at h
  refine lv_iload_n hx hb dX4_isPlace_0 rfl (lv_at hl 1 rfl) ?_
  refine lv_iconst (v := (0 : Int32)) hx hb dX4_isPlace_1 (by decide) ?_
  refine lv_aload_n hx hb dX4_isPlace_2 rfl (lv_at hl 0 rfl) ?_
  refine va_get (D := (dC, dI)) (ci := 4) (v := .ref axr) (C := RX4) (T := TX4) (N := 6) hx hb hts hin_X4 hown hK hP 0 rfl rfl 0 (by decide) (hf_10) (fun _ h9 => h9) rfl dX4_isPlace_3 ?_
  refine va_getN (D := (dC, dI)) (ci := 2) (v := .int vxrs) (C := RX2) (T := TX2) (N := 2) hx hb hts hin_X2 hown hK hP 1 rfl rfl 1 (by decide) (va_Nw.use rfl (hN.1)) (fun _ h9 => h9) rfl dX4_isPlace_6 ?_
  refine lv_iconst (v := (1 : Int32)) hx hb dX4_isPlace_9 (by decide) ?_
  refine lv_isub hx hb dX4_isPlace_10 ?_
  obtain ⟨r1, hr1, h⟩ := bd_some h
  have hFc := va_free (wc := []) hD hS hA [] rfl
  refine va_calli (va_runS (As := [.int p0, .int (0 : Int32), .int (vxrs - (1 : Int32))]) (rest := []) ⟨hx, hb, hml, hown, hts⟩ (c_X4_within l dC dI cy  H.size  p0 (0 : Int32) (vxrs - (1 : Int32)) r1 hr1) (va_cwS 3 hts gX4_isPlace_X4_within rfl rfl rfl (by decide +kernel) ⟨Nat.le_of_ble_eq_true rfl, Nat.le_of_ble_eq_true rfl⟩) ⟨PW_fb, PW_pre (hP.sub (ws' := []) [] rfl) hK (hD.sub [] (by decide) rfl) hN⟩ rfl rfl hl.1 rfl (lv_room (Nat.le_of_ble_eq_true rfl)) dX4_isPlace_11 ⟨Nat.zero_le _, Nat.zero_le _⟩) hS (fun q _ h => hFc q h) hFc (fun rz u t H locs ht hvm hw hB hz1 hk1 hS => ?_)
  obtain ⟨hP, hD⟩ := jn (wr := [(ax, .inr (4, [.ref axr, .ref axt, .ref axm, .ref axb, .ref axe, .int vxk])), (axr, .inr (2, [.ref axrd, .int vxrs]))]) (w1 := []) (ws' := [(ax, .inr (4, [.ref axr, .ref axt, .ref axm, .ref axb, .ref axe, .int vxk])), (axr, .inr (2, [.ref axrd, .int vxrs]))]) hP hD [] [0, 1] rfl rfl (by decide) (by decide) hk1 hFc hB ht [0, 1] rfl (by decide) rfl
  obtain ⟨hw, br1⟩ := hw
  replace hw := hw.symm
  subst hw
  clear hFc hB hk1 hz1 hvm
  have h0 := Option.some.inj h
  subst h0
  exact W.zret (ty := .boolean) hx hb hr br1 (fun t ht hW => ⟨⟨_, (), rfl, ⟨rfl, br1⟩, QW_mk hP hK hD ht hW⟩, hS.F ht⟩) hS.2.2 dX4_isPlace_14

noncomputable def fX4_places (vxrs : Int32) (fxrd : Nat → Int32) (p0 : Int32) : Option (Int32 × Int32 × (Nat → Int32)) := bd (fX4_within p0 (2 : Int32) (8 : Int32)) fun r1 => if r1 = 0 then (some ((-2 : Int32), vxrs, fxrd)) else (bd (fX2_clear vxrs fxrd p0) fun r2 => some (vxrs, r2.1, r2.2))
set_option maxHeartbeats 4000000 in
set_option maxRecDepth 100000 in
theorem c_X4_places (l : Launch) (dC : Nat → ClassId) (dI : Nat → Nat → Nat) (cy : ClassId) (ax axr axt axm axb axe axrd : Nat) (sz : Nat) (vxk : Int32) (vxrs : Int32) (fxrd : Nat → Int32) (p0 : Int32) (res : Int32 × Int32 × (Nat → Int32)) (h : fX4_places vxrs fxrd p0 = some res) : Met l yX4_places wsX4_places ({ frames := 1, cells := 0, slots := 0, locals := 22 }) (va_Pc [.ref ax, .int p0] (PW (dC, dI) cy sz [(ax, .inr (4, [.ref axr, .ref axt, .ref axm, .ref axb, .ref axe, .int vxk])), (axr, .inr (2, [.ref axrd, .int vxrs])), (axrd, .inl (cy, 8, .inl fxrd))])) (va_Qi (fun (r : Int32) (_ : Unit) => r = res.1) (QW (dC, dI) cy (va_A [(ax, .inr (4, [.ref axr, .ref axt, .ref axm, .ref axb, .ref axe, .int vxk])), (axr, .inr (2, [.ref axrd, .int vxrs])), (axrd, .inl (cy, 8, .inl fxrd))] sz) [(ax, .inr (4, [.ref axr, .ref axt, .ref axm, .ref axb, .ref axe, .int vxk])), (axr, .inr (2, [.ref axrd, .int res.2.1])), (axrd, .inl (cy, 8, .inl res.2.2))]) (va_A [(ax, .inr (4, [.ref axr, .ref axt, .ref axm, .ref axb, .ref axe, .int vxk])), (axr, .inr (2, [.ref axrd, .int vxrs])), (axrd, .inl (cy, 8, .inl fxrd))] sz)) 0 0 (va_A [(ax, .inr (4, [.ref axr, .ref axt, .ref axm, .ref axb, .ref axe, .int vxk])), (axr, .inr (2, [.ref axrd, .int vxrs])), (axrd, .inl (cy, 8, .inl fxrd))] sz) := by
  refine Met.ofW (cc := cX4_places) (maxL := 3) (ret := (some .int)) (by decide) rfl ?_
  intro p e s m args below meth c s₁ B hml hv
  obtain ⟨rfl, hsz, hP, hK, hD0, hN⟩ := hv
  have hx := B.exec
  have hb := B.bytes
  have hr := B.returns
  have hts := atoms_spec (ws := wsX4_places) B.pre
  have hown : s.vm.findClass RX4 = some m.cls := findClass_of_methodNamed B.named
  have hlocks := B.notSynchronized
  subst hsz
  have hD := hD0.self (sz := s.heap.size)
  clear hD0
  generalize hAe : va_A [(ax, .inr (4, [.ref axr, .ref axt, .ref axm, .ref axb, .ref axe, .int vxk])), (axr, .inr (2, [.ref axrd, .int vxrs])), (axrd, .inl (cy, 8, .inl fxrd))] s.heap.size = A at hD ⊢
  have hA : ∀ q : Nat, s.heap.size ≤ q → A q := fun q h => by rw [← hAe]; exact Or.inr h
  have hS : va_S A s.heap s.heap [] := va_S.rf
  have hl := lv_entry ([.ref ax, .int p0]) (n := 3) (Nat.le_of_ble_eq_true rfl)
  rw [lg_entry_eq]
  generalize (lg_sl ([.ref ax, .int p0]) ++ List.replicate (3 - (lg_sl ([.ref ax, .int p0])).length) Slot.unset).toArray = ls at hl ⊢
  replace hl : lv_has ls 3 [(0, .ref ax), (1, .int p0)] := hl
  replace hP : va_P (dC, dI) vwCl [(ax, .inr (4, [.ref axr, .ref axt, .ref axm, .ref axb, .ref axe, .int vxk])), (axr, .inr (2, [.ref axrd, .int vxrs])), (axrd, .inl (cy, 8, .inl fxrd))] s.heap := hP
  obtain ⟨locs, hlocs⟩ : ∃ lc : List Loc, lc = [] := ⟨_, rfl⟩
  rw [← hlocs] at hS ⊢
  obtain ⟨H, hH⟩ : ∃ H : Heap, H = s.heap := ⟨_, rfl⟩
  have hP2 := hP; rw [← hH] at hP2
  have hS2 : va_S A s.heap H locs := by rw [hH]; exact hS
  suffices hgo : W p l e (headSpec wsX4_places ({ frames := 1, cells := 0, slots := 0, locals := 22 })).room s m (([.ref ax, .int p0] : List Value).toArray) below meth c H locs 0 0 (MQ below (va_Qi (fun (r : Int32) (_ : Unit) => r = res.1) (QW (dC, dI) cy A [(ax, .inr (4, [.ref axr, .ref axt, .ref axm, .ref axb, .ref axe, .int vxk])), (axr, .inr (2, [.ref axrd, .int res.2.1])), (axrd, .inl (cy, 8, .inl res.2.2))]) A) (([.ref ax, .int p0] : List Value).toArray) s 0 0 A) (F0 m 0 ls []) by rw [hH] at hgo; exact hgo
  replace hP := hP2
  replace hS := hS2
  clear hP2 hS2
  have hin_X2 : ∀ w ∈ wsX20, w ∈ wsX4_places := by decide +kernel
  have hin_X4 : ∀ w ∈ wsX40, w ∈ wsX4_places := by decide +kernel
  have hf_10 := hts (.fieldLink RX4 10 "FewLooks" "row" "LFewLooks$Row;") (by decide +kernel)
  unfold fX4_places at h
  refine lv_iload_n hx hb dX4_places_0 rfl (lv_at hl 1 rfl) ?_
  refine lv_iconst (v := (2 : Int32)) hx hb dX4_places_1 (by decide) ?_
  refine lv_bipush (v := (8 : Int32)) hx hb dX4_places_2 (by decide) ?_
  obtain ⟨r1, hr1, h⟩ := bd_some h
  have hFc := va_free (wc := []) hD hS hA [] rfl
  refine va_calli (va_runS (As := [.int p0, .int (2 : Int32), .int (8 : Int32)]) (rest := []) ⟨hx, hb, hml, hown, hts⟩ (c_X4_within l dC dI cy  H.size  p0 (2 : Int32) (8 : Int32) r1 hr1) (va_cwS 3 hts gX4_places_X4_within rfl rfl rfl (by decide +kernel) ⟨Nat.le_of_ble_eq_true rfl, Nat.le_of_ble_eq_true rfl⟩) ⟨PW_fb, PW_pre (hP.sub (ws' := []) [] rfl) hK (hD.sub [] (by decide) rfl) hN⟩ rfl rfl hl.1 rfl (lv_room (Nat.le_of_ble_eq_true rfl)) dX4_places_4 ⟨Nat.zero_le _, Nat.zero_le _⟩) hS (fun q _ h => hFc q h) hFc (fun rz u t H locs ht hvm hw hB hz1 hk1 hS => ?_)
  obtain ⟨hP, hD⟩ := jn (wr := [(ax, .inr (4, [.ref axr, .ref axt, .ref axm, .ref axb, .ref axe, .int vxk])), (axr, .inr (2, [.ref axrd, .int vxrs])), (axrd, .inl (cy, 8, .inl fxrd))]) (w1 := []) (ws' := [(ax, .inr (4, [.ref axr, .ref axt, .ref axm, .ref axb, .ref axe, .int vxk])), (axr, .inr (2, [.ref axrd, .int vxrs])), (axrd, .inl (cy, 8, .inl fxrd))]) hP hD [] [0, 1, 2] rfl rfl (by decide) (by decide) hk1 hFc hB ht [0, 1, 2] rfl (by decide) rfl
  obtain ⟨hw, br1⟩ := hw
  replace hw := hw.symm
  subst hw
  clear hFc hB hk1 hz1 hvm
  refine lv_if_ne (tgt := 13) hx hb dX4_places_7 (by decide) (fun c3 => ?_) (fun c3 => ?_)
  · rw [if_neg c3] at h
    refine lv_aload_n hx hb dX4_places_13 rfl (lv_at hl 0 rfl) ?_
    refine va_get (D := (dC, dI)) (ci := 4) (v := .ref axr) (C := RX4) (T := TX4) (N := 6) hx hb hts hin_X4 hown hK hP 0 rfl rfl 0 (by decide) (hf_10) (fun _ h9 => h9) rfl dX4_places_14 ?_
    refine va_getN (D := (dC, dI)) (ci := 2) (v := .int vxrs) (C := RX2) (T := TX2) (N := 2) hx hb hts hin_X2 hown hK hP 1 rfl rfl 1 (by decide) (va_Nw.use rfl (hN.1)) (fun _ h9 => h9) rfl dX4_places_17 ?_
    refine lv_istore_n (lv' := [(2, .int vxrs), (0, .ref ax), (1, .int p0)]) hx hb dX4_places_20 rfl hl (by decide) rfl (fun ls hl => ?_)
    refine lv_aload_n hx hb dX4_places_21 rfl (lv_at hl 1 rfl) ?_
    refine va_get (D := (dC, dI)) (ci := 4) (v := .ref axr) (C := RX4) (T := TX4) (N := 6) hx hb hts hin_X4 hown hK hP 0 rfl rfl 0 (by decide) (hf_10) (fun _ h9 => h9) rfl dX4_places_22 ?_
    refine lv_iload_n hx hb dX4_places_25 rfl (lv_at hl 2 rfl) ?_
    obtain ⟨r2, hr2, h⟩ := bd_some h
    have hFc := va_free (wc := [(axr, .inr (2, [.ref axrd, .int vxrs])), (axrd, .inl (cy, 8, .inl fxrd))]) hD hS hA [1, 2] rfl
    refine va_callv (va_runV (As := [.int p0]) (rest := []) ⟨hx, hb, hml, hown, hts⟩ (c_X2_clear l dC dI cy axr axrd H.size vxrs fxrd p0 r2 hr2) (cwV 1 hts gX4_places_X2_clear rfl rfl rfl (by decide +kernel) ⟨Nat.le_of_ble_eq_true rfl, Nat.le_of_ble_eq_true rfl⟩) ⟨PW_fb, va_recv hK hP (ci := 2) (q0 := 1) rfl rfl, PW_pre (hP.sub (ws' := [(axr, .inr (2, [.ref axrd, .int vxrs])), (axrd, .inl (cy, 8, .inl fxrd))]) [1, 2] rfl) hK (hD.sub [1, 2] (by decide) rfl) hN⟩ rfl rfl hl.1 rfl (lv_room (Nat.le_of_ble_eq_true rfl)) dX4_places_26 ⟨Nat.zero_le _, Nat.zero_le _⟩) hS (fun q _ h => hFc q h) hFc (fun u t H locs ht hvm hw hB hz1 hk1 hS => ?_)
    obtain ⟨hP, hD⟩ := jn (wr := [(ax, .inr (4, [.ref axr, .ref axt, .ref axm, .ref axb, .ref axe, .int vxk]))]) (w1 := [(axr, .inr (2, [.ref axrd, .int r2.1])), (axrd, .inl (cy, 8, .inl r2.2))]) (ws' := [(ax, .inr (4, [.ref axr, .ref axt, .ref axm, .ref axb, .ref axe, .int vxk])), (axr, .inr (2, [.ref axrd, .int r2.1])), (axrd, .inl (cy, 8, .inl r2.2))]) hP hD [1, 2] [0] rfl rfl (by decide) (by decide) hk1 hFc hB ht [0, 1, 2] rfl (by decide) rfl
    clear hFc hB hk1 hz1 hvm
    refine lv_iload_n hx hb dX4_places_29 rfl (lv_at hl 0 rfl) ?_
    have h0 := Option.some.inj h
    subst h0
    exact W.iret hx hb hr (fun t ht hW => ⟨⟨_, (), rfl, rfl, QW_mk hP hK hD ht hW⟩, hS.F ht⟩) hS.2.2 dX4_places_30
  · rw [if_pos c3] at h
    refine lv_bipush (v := (-2 : Int32)) hx hb dX4_places_10 (by decide) ?_
    have h0 := Option.some.inj h
    subst h0
    exact W.iret hx hb hr (fun t ht hW => ⟨⟨_, (), rfl, rfl, QW_mk hP hK hD ht hW⟩, hS.F ht⟩) hS.2.2 dX4_places_12

noncomputable def fX4_digit (vxrs : Int32) (fxrd : Nat → Int32) (p0 : Int32) (p1 : Int32) : Option (Int32 × (Nat → Int32)) := bd (fX4_isPlace vxrs p0) fun r1 => if r1 = 0 then (some ((-2 : Int32), fxrd)) else (bd (fX4_within p1 (0 : Int32) (3 : Int32)) fun r2 => if r2 = 0 then (some ((-2 : Int32), fxrd)) else (gin p0 8 (gin p0 8 (some (fxrd p0.toNatClampNeg, upd fxrd p0.toNatClampNeg p1)))))
set_option maxHeartbeats 4000000 in
set_option maxRecDepth 100000 in
theorem c_X4_digit (l : Launch) (dC : Nat → ClassId) (dI : Nat → Nat → Nat) (cy : ClassId) (ax axr axt axm axb axe axrd : Nat) (sz : Nat) (vxk : Int32) (vxrs : Int32) (fxrd : Nat → Int32) (p0 : Int32) (p1 : Int32) (res : Int32 × (Nat → Int32)) (h : fX4_digit vxrs fxrd p0 p1 = some res) : Met l yX4_digit wsX4_digit ({ frames := 2, cells := 0, slots := 0, locals := 43 }) (va_Pc [.ref ax, .int p0, .int p1] (PW (dC, dI) cy sz [(ax, .inr (4, [.ref axr, .ref axt, .ref axm, .ref axb, .ref axe, .int vxk])), (axr, .inr (2, [.ref axrd, .int vxrs])), (axrd, .inl (cy, 8, .inl fxrd))])) (va_Qi (fun (r : Int32) (_ : Unit) => r = res.1) (QW (dC, dI) cy (va_A [(ax, .inr (4, [.ref axr, .ref axt, .ref axm, .ref axb, .ref axe, .int vxk])), (axr, .inr (2, [.ref axrd, .int vxrs])), (axrd, .inl (cy, 8, .inl fxrd))] sz) [(ax, .inr (4, [.ref axr, .ref axt, .ref axm, .ref axb, .ref axe, .int vxk])), (axr, .inr (2, [.ref axrd, .int vxrs])), (axrd, .inl (cy, 8, .inl res.2))]) (va_A [(ax, .inr (4, [.ref axr, .ref axt, .ref axm, .ref axb, .ref axe, .int vxk])), (axr, .inr (2, [.ref axrd, .int vxrs])), (axrd, .inl (cy, 8, .inl fxrd))] sz)) 0 0 (va_A [(ax, .inr (4, [.ref axr, .ref axt, .ref axm, .ref axb, .ref axe, .int vxk])), (axr, .inr (2, [.ref axrd, .int vxrs])), (axrd, .inl (cy, 8, .inl fxrd))] sz) := by
  refine Met.ofW (cc := cX4_digit) (maxL := 4) (ret := (some .int)) (by decide) rfl ?_
  intro p e s m args below meth c s₁ B hml hv
  obtain ⟨rfl, hsz, hP, hK, hD0, hN⟩ := hv
  have hx := B.exec
  have hb := B.bytes
  have hr := B.returns
  have hts := atoms_spec (ws := wsX4_digit) B.pre
  have hown : s.vm.findClass RX4 = some m.cls := findClass_of_methodNamed B.named
  have hlocks := B.notSynchronized
  subst hsz
  have hD := hD0.self (sz := s.heap.size)
  clear hD0
  generalize hAe : va_A [(ax, .inr (4, [.ref axr, .ref axt, .ref axm, .ref axb, .ref axe, .int vxk])), (axr, .inr (2, [.ref axrd, .int vxrs])), (axrd, .inl (cy, 8, .inl fxrd))] s.heap.size = A at hD ⊢
  have hA : ∀ q : Nat, s.heap.size ≤ q → A q := fun q h => by rw [← hAe]; exact Or.inr h
  have hS : va_S A s.heap s.heap [] := va_S.rf
  have hl := lv_entry ([.ref ax, .int p0, .int p1]) (n := 4) (Nat.le_of_ble_eq_true rfl)
  rw [lg_entry_eq]
  generalize (lg_sl ([.ref ax, .int p0, .int p1]) ++ List.replicate (4 - (lg_sl ([.ref ax, .int p0, .int p1])).length) Slot.unset).toArray = ls at hl ⊢
  replace hl : lv_has ls 4 [(0, .ref ax), (1, .int p0), (2, .int p1)] := hl
  replace hP : va_P (dC, dI) vwCl [(ax, .inr (4, [.ref axr, .ref axt, .ref axm, .ref axb, .ref axe, .int vxk])), (axr, .inr (2, [.ref axrd, .int vxrs])), (axrd, .inl (cy, 8, .inl fxrd))] s.heap := hP
  obtain ⟨locs, hlocs⟩ : ∃ lc : List Loc, lc = [] := ⟨_, rfl⟩
  rw [← hlocs] at hS ⊢
  obtain ⟨H, hH⟩ : ∃ H : Heap, H = s.heap := ⟨_, rfl⟩
  have hP2 := hP; rw [← hH] at hP2
  have hS2 : va_S A s.heap H locs := by rw [hH]; exact hS
  suffices hgo : W p l e (headSpec wsX4_digit ({ frames := 2, cells := 0, slots := 0, locals := 43 })).room s m (([.ref ax, .int p0, .int p1] : List Value).toArray) below meth c H locs 0 0 (MQ below (va_Qi (fun (r : Int32) (_ : Unit) => r = res.1) (QW (dC, dI) cy A [(ax, .inr (4, [.ref axr, .ref axt, .ref axm, .ref axb, .ref axe, .int vxk])), (axr, .inr (2, [.ref axrd, .int vxrs])), (axrd, .inl (cy, 8, .inl res.2))]) A) (([.ref ax, .int p0, .int p1] : List Value).toArray) s 0 0 A) (F0 m 0 ls []) by rw [hH] at hgo; exact hgo
  replace hP := hP2
  replace hS := hS2
  clear hP2 hS2
  have hin_X2 : ∀ w ∈ wsX20, w ∈ wsX4_digit := by decide +kernel
  have hin_X4 : ∀ w ∈ wsX40, w ∈ wsX4_digit := by decide +kernel
  have hf_10 := hts (.fieldLink RX4 10 "FewLooks" "row" "LFewLooks$Row;") (by decide +kernel)
  unfold fX4_digit at h
  refine lv_aload_n hx hb dX4_digit_0 rfl (lv_at hl 0 rfl) ?_
  refine lv_iload_n hx hb dX4_digit_1 rfl (lv_at hl 1 rfl) ?_
  obtain ⟨r1, hr1, h⟩ := bd_some h
  have hFc := va_free (wc := [(ax, .inr (4, [.ref axr, .ref axt, .ref axm, .ref axb, .ref axe, .int vxk])), (axr, .inr (2, [.ref axrd, .int vxrs]))]) hD hS hA [0, 1] rfl
  refine va_calli (va_runV (As := [.int p0]) (rest := []) ⟨hx, hb, hml, hown, hts⟩ (c_X4_isPlace l dC dI cy ax axr axt axm axb axe axrd H.size vxk vxrs p0 r1 hr1) (cwV 1 hts gX4_digit_X4_isPlace rfl rfl rfl (by decide +kernel) ⟨Nat.le_of_ble_eq_true rfl, Nat.le_of_ble_eq_true rfl⟩) ⟨PW_fb, va_recv hK hP (ci := 4) (q0 := 0) rfl rfl, PW_pre (hP.sub (ws' := [(ax, .inr (4, [.ref axr, .ref axt, .ref axm, .ref axb, .ref axe, .int vxk])), (axr, .inr (2, [.ref axrd, .int vxrs]))]) [0, 1] rfl) hK (hD.sub [0, 1] (by decide) rfl) hN⟩ rfl rfl hl.1 rfl (lv_room (Nat.le_of_ble_eq_true rfl)) dX4_digit_2 ⟨Nat.zero_le _, Nat.zero_le _⟩) hS (fun q _ h => hFc q h) hFc (fun rz u t H locs ht hvm hw hB hz1 hk1 hS => ?_)
  obtain ⟨hP, hD⟩ := jn (wr := [(axrd, .inl (cy, 8, .inl fxrd))]) (w1 := [(ax, .inr (4, [.ref axr, .ref axt, .ref axm, .ref axb, .ref axe, .int vxk])), (axr, .inr (2, [.ref axrd, .int vxrs]))]) (ws' := [(ax, .inr (4, [.ref axr, .ref axt, .ref axm, .ref axb, .ref axe, .int vxk])), (axr, .inr (2, [.ref axrd, .int vxrs])), (axrd, .inl (cy, 8, .inl fxrd))]) hP hD [0, 1] [2] rfl rfl (by decide) (by decide) hk1 hFc hB ht [1, 2, 0] rfl (by decide) rfl
  obtain ⟨hw, br1⟩ := hw
  replace hw := hw.symm
  subst hw
  clear hFc hB hk1 hz1 hvm
  refine lv_if_eq (tgt := 17) hx hb dX4_digit_5 (by decide) (fun c4 => ?_) (fun c4 => ?_)
  · rw [if_pos c4] at h
    refine lv_bipush (v := (-2 : Int32)) hx hb dX4_digit_17 (by decide) ?_
    have h0 := Option.some.inj h
    subst h0
    exact W.iret hx hb hr (fun t ht hW => ⟨⟨_, (), rfl, rfl, QW_mk hP hK hD ht hW⟩, hS.F ht⟩) hS.2.2 dX4_digit_19
  · rw [if_neg c4] at h
    refine lv_iload_n hx hb dX4_digit_8 rfl (lv_at hl 2 rfl) ?_
    refine lv_iconst (v := (0 : Int32)) hx hb dX4_digit_9 (by decide) ?_
    refine lv_iconst (v := (3 : Int32)) hx hb dX4_digit_10 (by decide) ?_
    obtain ⟨r2, hr2, h⟩ := bd_some h
    have hFc := va_free (wc := []) hD hS hA [] rfl
    refine va_calli (va_runS (As := [.int p1, .int (0 : Int32), .int (3 : Int32)]) (rest := []) ⟨hx, hb, hml, hown, hts⟩ (c_X4_within l dC dI cy  H.size  p1 (0 : Int32) (3 : Int32) r2 hr2) (va_cwS 3 hts gX4_digit_X4_within rfl rfl rfl (by decide +kernel) ⟨Nat.le_of_ble_eq_true rfl, Nat.le_of_ble_eq_true rfl⟩) ⟨PW_fb, PW_pre (hP.sub (ws' := []) [] rfl) hK (hD.sub [] (by decide) rfl) hN⟩ rfl rfl hl.1 rfl (lv_room (Nat.le_of_ble_eq_true rfl)) dX4_digit_11 ⟨Nat.zero_le _, Nat.zero_le _⟩) hS (fun q _ h => hFc q h) hFc (fun rz u t H locs ht hvm hw hB hz1 hk1 hS => ?_)
    obtain ⟨hP, hD⟩ := jn (wr := [(ax, .inr (4, [.ref axr, .ref axt, .ref axm, .ref axb, .ref axe, .int vxk])), (axr, .inr (2, [.ref axrd, .int vxrs])), (axrd, .inl (cy, 8, .inl fxrd))]) (w1 := []) (ws' := [(ax, .inr (4, [.ref axr, .ref axt, .ref axm, .ref axb, .ref axe, .int vxk])), (axr, .inr (2, [.ref axrd, .int vxrs])), (axrd, .inl (cy, 8, .inl fxrd))]) hP hD [] [0, 1, 2] rfl rfl (by decide) (by decide) hk1 hFc hB ht [0, 1, 2] rfl (by decide) rfl
    obtain ⟨hw, br2⟩ := hw
    replace hw := hw.symm
    subst hw
    clear hFc hB hk1 hz1 hvm
    refine lv_if_ne (tgt := 20) hx hb dX4_digit_14 (by decide) (fun c3 => ?_) (fun c3 => ?_)
    · rw [if_neg c3] at h
      refine lv_aload_n hx hb dX4_digit_20 rfl (lv_at hl 0 rfl) ?_
      refine va_get (D := (dC, dI)) (ci := 4) (v := .ref axr) (C := RX4) (T := TX4) (N := 6) hx hb hts hin_X4 hown hK hP 0 rfl rfl 0 (by decide) (hf_10) (fun _ h9 => h9) rfl dX4_digit_21 ?_
      refine va_getN (D := (dC, dI)) (ci := 2) (v := .ref axrd) (C := RX2) (T := TX2) (N := 2) hx hb hts hin_X2 hown hK hP 1 rfl rfl 0 (by decide) (va_Nw.use rfl (hN.2.1)) (fun _ h9 => h9) rfl dX4_digit_24 ?_
      refine lv_iload_n hx hb dX4_digit_27 rfl (lv_at hl 1 rfl) ?_
      obtain ⟨hi, h⟩ := gin_some h
      refine va_iald hx hb hK hP 2 0 rfl rfl hi dX4_digit_28 ?_
      refine lv_istore_n (lv' := [(3, .int (fxrd p0.toNatClampNeg)), (0, .ref ax), (1, .int p0), (2, .int p1)]) hx hb dX4_digit_29 rfl hl (by decide) rfl (fun ls hl => ?_)
      refine lv_aload_n hx hb dX4_digit_30 rfl (lv_at hl 1 rfl) ?_
      refine va_get (D := (dC, dI)) (ci := 4) (v := .ref axr) (C := RX4) (T := TX4) (N := 6) hx hb hts hin_X4 hown hK hP 0 rfl rfl 0 (by decide) (hf_10) (fun _ h9 => h9) rfl dX4_digit_31 ?_
      refine va_getN (D := (dC, dI)) (ci := 2) (v := .ref axrd) (C := RX2) (T := TX2) (N := 2) hx hb hts hin_X2 hown hK hP 1 rfl rfl 0 (by decide) (va_Nw.use rfl (hN.2.1)) (fun _ h9 => h9) rfl dX4_digit_34 ?_
      refine lv_iload_n hx hb dX4_digit_37 rfl (lv_at hl 2 rfl) ?_
      refine lv_iload_n hx hb dX4_digit_38 rfl (lv_at hl 3 rfl) ?_
      obtain ⟨hi, h⟩ := gin_some h
      refine va_iast hx hb hK hP hD hS 2 0 rfl rfl hi dX4_digit_39 (fun H locs hP hD hS => ?_)
      replace hP : va_P (dC, dI) vwCl [(ax, .inr (4, [.ref axr, .ref axt, .ref axm, .ref axb, .ref axe, .int vxk])), (axr, .inr (2, [.ref axrd, .int vxrs])), (axrd, .inl (cy, 8, .inl (upd fxrd p0.toNatClampNeg p1)))] H := hP
      replace hD : va_D A [(ax, .inr (4, [.ref axr, .ref axt, .ref axm, .ref axb, .ref axe, .int vxk])), (axr, .inr (2, [.ref axrd, .int vxrs])), (axrd, .inl (cy, 8, .inl (upd fxrd p0.toNatClampNeg p1)))] := hD
      refine lv_iload_n hx hb dX4_digit_40 rfl (lv_at hl 0 rfl) ?_
      have h0 := Option.some.inj h
      subst h0
      exact W.iret hx hb hr (fun t ht hW => ⟨⟨_, (), rfl, rfl, QW_mk hP hK hD ht hW⟩, hS.F ht⟩) hS.2.2 dX4_digit_41
    · rw [if_pos c3] at h
      refine lv_bipush (v := (-2 : Int32)) hx hb dX4_digit_17 (by decide) ?_
      have h0 := Option.some.inj h
      subst h0
      exact W.iret hx hb hr (fun t ht hW => ⟨⟨_, (), rfl, rfl, QW_mk hP hK hD ht hW⟩, hS.F ht⟩) hS.2.2 dX4_digit_19

noncomputable def fX4_bit (vxbb : Int32) (p0 : Int32) (p1 : Int32) : Option (Int32 × Int32) := bd (fX4_isEntry p0) fun r1 => if r1 = 0 then (some ((-2 : Int32), vxbb)) else (bd (fX4_within p1 (0 : Int32) (1 : Int32)) fun r2 => if r2 = 0 then (some ((-2 : Int32), vxbb)) else (bd (fX3_at vxbb p0) fun r3 => bd (fX3_put vxbb p0 p1) fun r4 => some (r3, r4)))
set_option maxHeartbeats 4000000 in
set_option maxRecDepth 100000 in
theorem c_X4_bit (l : Launch) (dC : Nat → ClassId) (dI : Nat → Nat → Nat) (cy : ClassId) (ax axr axt axm axb axe : Nat) (sz : Nat) (vxk : Int32) (vxbb : Int32) (p0 : Int32) (p1 : Int32) (res : Int32 × Int32) (h : fX4_bit vxbb p0 p1 = some res) : Met l yX4_bit wsX4_bit ({ frames := 2, cells := 0, slots := 0, locals := 42 }) (va_Pc [.ref ax, .int p0, .int p1] (PW (dC, dI) cy sz [(ax, .inr (4, [.ref axr, .ref axt, .ref axm, .ref axb, .ref axe, .int vxk])), (axb, .inr (3, [.int vxbb]))])) (va_Qi (fun (r : Int32) (_ : Unit) => r = res.1) (QW (dC, dI) cy (va_A [(ax, .inr (4, [.ref axr, .ref axt, .ref axm, .ref axb, .ref axe, .int vxk])), (axb, .inr (3, [.int vxbb]))] sz) [(ax, .inr (4, [.ref axr, .ref axt, .ref axm, .ref axb, .ref axe, .int vxk])), (axb, .inr (3, [.int res.2]))]) (va_A [(ax, .inr (4, [.ref axr, .ref axt, .ref axm, .ref axb, .ref axe, .int vxk])), (axb, .inr (3, [.int vxbb]))] sz)) 0 0 (va_A [(ax, .inr (4, [.ref axr, .ref axt, .ref axm, .ref axb, .ref axe, .int vxk])), (axb, .inr (3, [.int vxbb]))] sz) := by
  refine Met.ofW (cc := cX4_bit) (maxL := 4) (ret := (some .int)) (by decide) rfl ?_
  intro p e s m args below meth c s₁ B hml hv
  obtain ⟨rfl, hsz, hP, hK, hD0, hN⟩ := hv
  have hx := B.exec
  have hb := B.bytes
  have hr := B.returns
  have hts := atoms_spec (ws := wsX4_bit) B.pre
  have hown : s.vm.findClass RX4 = some m.cls := findClass_of_methodNamed B.named
  have hlocks := B.notSynchronized
  subst hsz
  have hD := hD0.self (sz := s.heap.size)
  clear hD0
  generalize hAe : va_A [(ax, .inr (4, [.ref axr, .ref axt, .ref axm, .ref axb, .ref axe, .int vxk])), (axb, .inr (3, [.int vxbb]))] s.heap.size = A at hD ⊢
  have hA : ∀ q : Nat, s.heap.size ≤ q → A q := fun q h => by rw [← hAe]; exact Or.inr h
  have hS : va_S A s.heap s.heap [] := va_S.rf
  have hl := lv_entry ([.ref ax, .int p0, .int p1]) (n := 4) (Nat.le_of_ble_eq_true rfl)
  rw [lg_entry_eq]
  generalize (lg_sl ([.ref ax, .int p0, .int p1]) ++ List.replicate (4 - (lg_sl ([.ref ax, .int p0, .int p1])).length) Slot.unset).toArray = ls at hl ⊢
  replace hl : lv_has ls 4 [(0, .ref ax), (1, .int p0), (2, .int p1)] := hl
  replace hP : va_P (dC, dI) vwCl [(ax, .inr (4, [.ref axr, .ref axt, .ref axm, .ref axb, .ref axe, .int vxk])), (axb, .inr (3, [.int vxbb]))] s.heap := hP
  obtain ⟨locs, hlocs⟩ : ∃ lc : List Loc, lc = [] := ⟨_, rfl⟩
  rw [← hlocs] at hS ⊢
  obtain ⟨H, hH⟩ : ∃ H : Heap, H = s.heap := ⟨_, rfl⟩
  have hP2 := hP; rw [← hH] at hP2
  have hS2 : va_S A s.heap H locs := by rw [hH]; exact hS
  suffices hgo : W p l e (headSpec wsX4_bit ({ frames := 2, cells := 0, slots := 0, locals := 42 })).room s m (([.ref ax, .int p0, .int p1] : List Value).toArray) below meth c H locs 0 0 (MQ below (va_Qi (fun (r : Int32) (_ : Unit) => r = res.1) (QW (dC, dI) cy A [(ax, .inr (4, [.ref axr, .ref axt, .ref axm, .ref axb, .ref axe, .int vxk])), (axb, .inr (3, [.int res.2]))]) A) (([.ref ax, .int p0, .int p1] : List Value).toArray) s 0 0 A) (F0 m 0 ls []) by rw [hH] at hgo; exact hgo
  replace hP := hP2
  replace hS := hS2
  clear hP2 hS2
  have hin_X4 : ∀ w ∈ wsX40, w ∈ wsX4_bit := by decide +kernel
  have hf_29 := hts (.fieldLink RX4 29 "FewLooks" "table" "LFewLooks$Table;") (by decide +kernel)
  unfold fX4_bit at h
  refine lv_iload_n hx hb dX4_bit_0 rfl (lv_at hl 1 rfl) ?_
  obtain ⟨r1, hr1, h⟩ := bd_some h
  have hFc := va_free (wc := []) hD hS hA [] rfl
  refine va_calli (va_runS (As := [.int p0]) (rest := []) ⟨hx, hb, hml, hown, hts⟩ (c_X4_isEntry l dC dI cy  H.size  p0 r1 hr1) (va_cwS 1 hts gX4_bit_X4_isEntry rfl rfl rfl (by decide +kernel) ⟨Nat.le_of_ble_eq_true rfl, Nat.le_of_ble_eq_true rfl⟩) ⟨PW_fb, PW_pre (hP.sub (ws' := []) [] rfl) hK (hD.sub [] (by decide) rfl) hN⟩ rfl rfl hl.1 rfl (lv_room (Nat.le_of_ble_eq_true rfl)) dX4_bit_1 ⟨Nat.zero_le _, Nat.zero_le _⟩) hS (fun q _ h => hFc q h) hFc (fun rz u t H locs ht hvm hw hB hz1 hk1 hS => ?_)
  obtain ⟨hP, hD⟩ := jn (wr := [(ax, .inr (4, [.ref axr, .ref axt, .ref axm, .ref axb, .ref axe, .int vxk])), (axb, .inr (3, [.int vxbb]))]) (w1 := []) (ws' := [(ax, .inr (4, [.ref axr, .ref axt, .ref axm, .ref axb, .ref axe, .int vxk])), (axb, .inr (3, [.int vxbb]))]) hP hD [] [0, 1] rfl rfl (by decide) (by decide) hk1 hFc hB ht [0, 1] rfl (by decide) rfl
  obtain ⟨hw, br1⟩ := hw
  replace hw := hw.symm
  subst hw
  clear hFc hB hk1 hz1 hvm
  refine lv_if_eq (tgt := 16) hx hb dX4_bit_4 (by decide) (fun c6 => ?_) (fun c6 => ?_)
  · rw [if_pos c6] at h
    refine lv_bipush (v := (-2 : Int32)) hx hb dX4_bit_16 (by decide) ?_
    have h0 := Option.some.inj h
    subst h0
    exact W.iret hx hb hr (fun t ht hW => ⟨⟨_, (), rfl, rfl, QW_mk hP hK hD ht hW⟩, hS.F ht⟩) hS.2.2 dX4_bit_18
  · rw [if_neg c6] at h
    refine lv_iload_n hx hb dX4_bit_7 rfl (lv_at hl 2 rfl) ?_
    refine lv_iconst (v := (0 : Int32)) hx hb dX4_bit_8 (by decide) ?_
    refine lv_iconst (v := (1 : Int32)) hx hb dX4_bit_9 (by decide) ?_
    obtain ⟨r2, hr2, h⟩ := bd_some h
    have hFc := va_free (wc := []) hD hS hA [] rfl
    refine va_calli (va_runS (As := [.int p1, .int (0 : Int32), .int (1 : Int32)]) (rest := []) ⟨hx, hb, hml, hown, hts⟩ (c_X4_within l dC dI cy  H.size  p1 (0 : Int32) (1 : Int32) r2 hr2) (va_cwS 3 hts gX4_bit_X4_within rfl rfl rfl (by decide +kernel) ⟨Nat.le_of_ble_eq_true rfl, Nat.le_of_ble_eq_true rfl⟩) ⟨PW_fb, PW_pre (hP.sub (ws' := []) [] rfl) hK (hD.sub [] (by decide) rfl) hN⟩ rfl rfl hl.1 rfl (lv_room (Nat.le_of_ble_eq_true rfl)) dX4_bit_10 ⟨Nat.zero_le _, Nat.zero_le _⟩) hS (fun q _ h => hFc q h) hFc (fun rz u t H locs ht hvm hw hB hz1 hk1 hS => ?_)
    obtain ⟨hP, hD⟩ := jn (wr := [(ax, .inr (4, [.ref axr, .ref axt, .ref axm, .ref axb, .ref axe, .int vxk])), (axb, .inr (3, [.int vxbb]))]) (w1 := []) (ws' := [(ax, .inr (4, [.ref axr, .ref axt, .ref axm, .ref axb, .ref axe, .int vxk])), (axb, .inr (3, [.int vxbb]))]) hP hD [] [0, 1] rfl rfl (by decide) (by decide) hk1 hFc hB ht [0, 1] rfl (by decide) rfl
    obtain ⟨hw, br2⟩ := hw
    replace hw := hw.symm
    subst hw
    clear hFc hB hk1 hz1 hvm
    refine lv_if_ne (tgt := 19) hx hb dX4_bit_13 (by decide) (fun c5 => ?_) (fun c5 => ?_)
    · rw [if_neg c5] at h
      refine lv_aload_n hx hb dX4_bit_19 rfl (lv_at hl 0 rfl) ?_
      refine va_get (D := (dC, dI)) (ci := 4) (v := .ref axb) (C := RX4) (T := TX4) (N := 6) hx hb hts hin_X4 hown hK hP 0 rfl rfl 3 (by decide) (hf_29) (fun _ h9 => h9) rfl dX4_bit_20 ?_
      refine lv_iload_n hx hb dX4_bit_23 rfl (lv_at hl 1 rfl) ?_
      obtain ⟨r3, hr3, h⟩ := bd_some h
      have hFc := va_free (wc := [(axb, .inr (3, [.int vxbb]))]) hD hS hA [1] rfl
      refine va_calli (va_runV (As := [.int p0]) (rest := []) ⟨hx, hb, hml, hown, hts⟩ (c_X3_at l dC dI cy axb H.size vxbb p0 r3 hr3) (cwV 1 hts gX4_bit_X3_at rfl rfl rfl (by decide +kernel) ⟨Nat.le_of_ble_eq_true rfl, Nat.le_of_ble_eq_true rfl⟩) ⟨PW_fb, va_recv hK hP (ci := 3) (q0 := 1) rfl rfl, PW_pre (hP.sub (ws' := [(axb, .inr (3, [.int vxbb]))]) [1] rfl) hK (hD.sub [1] (by decide) rfl) hN⟩ rfl rfl hl.1 rfl (lv_room (Nat.le_of_ble_eq_true rfl)) dX4_bit_24 ⟨Nat.zero_le _, Nat.zero_le _⟩) hS (fun q _ h => hFc q h) hFc (fun rz u t H locs ht hvm hw hB hz1 hk1 hS => ?_)
      obtain ⟨hP, hD⟩ := jn (wr := [(ax, .inr (4, [.ref axr, .ref axt, .ref axm, .ref axb, .ref axe, .int vxk]))]) (w1 := [(axb, .inr (3, [.int vxbb]))]) (ws' := [(ax, .inr (4, [.ref axr, .ref axt, .ref axm, .ref axb, .ref axe, .int vxk])), (axb, .inr (3, [.int vxbb]))]) hP hD [1] [0] rfl rfl (by decide) (by decide) hk1 hFc hB ht [0, 1] rfl (by decide) rfl
      replace hw := hw.symm
      subst hw
      clear hFc hB hk1 hz1 hvm
      refine lv_istore_n (lv' := [(3, .int r3), (0, .ref ax), (1, .int p0), (2, .int p1)]) hx hb dX4_bit_27 rfl hl (by decide) rfl (fun ls hl => ?_)
      refine lv_aload_n hx hb dX4_bit_28 rfl (lv_at hl 1 rfl) ?_
      refine va_get (D := (dC, dI)) (ci := 4) (v := .ref axb) (C := RX4) (T := TX4) (N := 6) hx hb hts hin_X4 hown hK hP 0 rfl rfl 3 (by decide) (hf_29) (fun _ h9 => h9) rfl dX4_bit_29 ?_
      refine lv_iload_n hx hb dX4_bit_32 rfl (lv_at hl 2 rfl) ?_
      refine lv_iload_n hx hb dX4_bit_33 rfl (lv_at hl 3 rfl) ?_
      obtain ⟨r4, hr4, h⟩ := bd_some h
      have hFc := va_free (wc := [(axb, .inr (3, [.int vxbb]))]) hD hS hA [1] rfl
      refine va_callv (va_runV (As := [.int p0, .int p1]) (rest := []) ⟨hx, hb, hml, hown, hts⟩ (c_X3_put l dC dI cy axb H.size vxbb p0 p1 r4 hr4) (cwV 2 hts gX4_bit_X3_put rfl rfl rfl (by decide +kernel) ⟨Nat.le_of_ble_eq_true rfl, Nat.le_of_ble_eq_true rfl⟩) ⟨PW_fb, va_recv hK hP (ci := 3) (q0 := 1) rfl rfl, PW_pre (hP.sub (ws' := [(axb, .inr (3, [.int vxbb]))]) [1] rfl) hK (hD.sub [1] (by decide) rfl) hN⟩ rfl rfl hl.1 rfl (lv_room (Nat.le_of_ble_eq_true rfl)) dX4_bit_34 ⟨Nat.zero_le _, Nat.zero_le _⟩) hS (fun q _ h => hFc q h) hFc (fun u t H locs ht hvm hw hB hz1 hk1 hS => ?_)
      obtain ⟨hP, hD⟩ := jn (wr := [(ax, .inr (4, [.ref axr, .ref axt, .ref axm, .ref axb, .ref axe, .int vxk]))]) (w1 := [(axb, .inr (3, [.int r4]))]) (ws' := [(ax, .inr (4, [.ref axr, .ref axt, .ref axm, .ref axb, .ref axe, .int vxk])), (axb, .inr (3, [.int r4]))]) hP hD [1] [0] rfl rfl (by decide) (by decide) hk1 hFc hB ht [0, 1] rfl (by decide) rfl
      clear hFc hB hk1 hz1 hvm
      refine lv_iload_n hx hb dX4_bit_37 rfl (lv_at hl 0 rfl) ?_
      have h0 := Option.some.inj h
      subst h0
      exact W.iret hx hb hr (fun t ht hW => ⟨⟨_, (), rfl, rfl, QW_mk hP hK hD ht hW⟩, hS.F ht⟩) hS.2.2 dX4_bit_38
    · rw [if_pos c5] at h
      refine lv_bipush (v := (-2 : Int32)) hx hb dX4_bit_16 (by decide) ?_
      have h0 := Option.some.inj h
      subst h0
      exact W.iret hx hb hr (fun t ht hW => ⟨⟨_, (), rfl, rfl, QW_mk hP hK hD ht hW⟩, hS.F ht⟩) hS.2.2 dX4_bit_18

noncomputable def fX4_linear (vxbb : Int32) (p0 : Int32) : Option (Int32 × Int32) := bd (fX4_isEntry p0) fun r1 => if r1 = 0 then (some ((-2 : Int32), vxbb)) else (bd (fX3_parities p0) fun r2 => some ((1 : Int32), r2))
set_option maxHeartbeats 4000000 in
set_option maxRecDepth 100000 in
theorem c_X4_linear (l : Launch) (dC : Nat → ClassId) (dI : Nat → Nat → Nat) (cy : ClassId) (ax axr axt axm axb axe : Nat) (sz : Nat) (vxk : Int32) (vxbb : Int32) (p0 : Int32) (res : Int32 × Int32) (h : fX4_linear vxbb p0 = some res) : Met l yX4_linear wsX4_linear ({ frames := 2, cells := 0, slots := 0, locals := 42 }) (va_Pc [.ref ax, .int p0] (PW (dC, dI) cy sz [(ax, .inr (4, [.ref axr, .ref axt, .ref axm, .ref axb, .ref axe, .int vxk])), (axb, .inr (3, [.int vxbb]))])) (va_Qi (fun (r : Int32) (_ : Unit) => r = res.1) (QW (dC, dI) cy (va_A [(ax, .inr (4, [.ref axr, .ref axt, .ref axm, .ref axb, .ref axe, .int vxk])), (axb, .inr (3, [.int vxbb]))] sz) [(ax, .inr (4, [.ref axr, .ref axt, .ref axm, .ref axb, .ref axe, .int vxk])), (axb, .inr (3, [.int res.2]))]) (va_A [(ax, .inr (4, [.ref axr, .ref axt, .ref axm, .ref axb, .ref axe, .int vxk])), (axb, .inr (3, [.int vxbb]))] sz)) 0 0 (va_A [(ax, .inr (4, [.ref axr, .ref axt, .ref axm, .ref axb, .ref axe, .int vxk])), (axb, .inr (3, [.int vxbb]))] sz) := by
  refine Met.ofW (cc := cX4_linear) (maxL := 2) (ret := (some .int)) (by decide) rfl ?_
  intro p e s m args below meth c s₁ B hml hv
  obtain ⟨rfl, hsz, hP, hK, hD0, hN⟩ := hv
  have hx := B.exec
  have hb := B.bytes
  have hr := B.returns
  have hts := atoms_spec (ws := wsX4_linear) B.pre
  have hown : s.vm.findClass RX4 = some m.cls := findClass_of_methodNamed B.named
  have hlocks := B.notSynchronized
  subst hsz
  have hD := hD0.self (sz := s.heap.size)
  clear hD0
  generalize hAe : va_A [(ax, .inr (4, [.ref axr, .ref axt, .ref axm, .ref axb, .ref axe, .int vxk])), (axb, .inr (3, [.int vxbb]))] s.heap.size = A at hD ⊢
  have hA : ∀ q : Nat, s.heap.size ≤ q → A q := fun q h => by rw [← hAe]; exact Or.inr h
  have hS : va_S A s.heap s.heap [] := va_S.rf
  have hl := lv_entry ([.ref ax, .int p0]) (n := 2) (Nat.le_of_ble_eq_true rfl)
  rw [lg_entry_eq]
  generalize (lg_sl ([.ref ax, .int p0]) ++ List.replicate (2 - (lg_sl ([.ref ax, .int p0])).length) Slot.unset).toArray = ls at hl ⊢
  replace hl : lv_has ls 2 [(0, .ref ax), (1, .int p0)] := hl
  replace hP : va_P (dC, dI) vwCl [(ax, .inr (4, [.ref axr, .ref axt, .ref axm, .ref axb, .ref axe, .int vxk])), (axb, .inr (3, [.int vxbb]))] s.heap := hP
  obtain ⟨locs, hlocs⟩ : ∃ lc : List Loc, lc = [] := ⟨_, rfl⟩
  rw [← hlocs] at hS ⊢
  obtain ⟨H, hH⟩ : ∃ H : Heap, H = s.heap := ⟨_, rfl⟩
  have hP2 := hP; rw [← hH] at hP2
  have hS2 : va_S A s.heap H locs := by rw [hH]; exact hS
  suffices hgo : W p l e (headSpec wsX4_linear ({ frames := 2, cells := 0, slots := 0, locals := 42 })).room s m (([.ref ax, .int p0] : List Value).toArray) below meth c H locs 0 0 (MQ below (va_Qi (fun (r : Int32) (_ : Unit) => r = res.1) (QW (dC, dI) cy A [(ax, .inr (4, [.ref axr, .ref axt, .ref axm, .ref axb, .ref axe, .int vxk])), (axb, .inr (3, [.int res.2]))]) A) (([.ref ax, .int p0] : List Value).toArray) s 0 0 A) (F0 m 0 ls []) by rw [hH] at hgo; exact hgo
  replace hP := hP2
  replace hS := hS2
  clear hP2 hS2
  have hin_X3 : ∀ w ∈ wsX30, w ∈ wsX4_linear := by decide +kernel
  have hin_X4 : ∀ w ∈ wsX40, w ∈ wsX4_linear := by decide +kernel
  have hf_29 := hts (.fieldLink RX4 29 "FewLooks" "table" "LFewLooks$Table;") (by decide +kernel)
  unfold fX4_linear at h
  refine lv_iload_n hx hb dX4_linear_0 rfl (lv_at hl 1 rfl) ?_
  obtain ⟨r1, hr1, h⟩ := bd_some h
  have hFc := va_free (wc := []) hD hS hA [] rfl
  refine va_calli (va_runS (As := [.int p0]) (rest := []) ⟨hx, hb, hml, hown, hts⟩ (c_X4_isEntry l dC dI cy  H.size  p0 r1 hr1) (va_cwS 1 hts gX4_linear_X4_isEntry rfl rfl rfl (by decide +kernel) ⟨Nat.le_of_ble_eq_true rfl, Nat.le_of_ble_eq_true rfl⟩) ⟨PW_fb, PW_pre (hP.sub (ws' := []) [] rfl) hK (hD.sub [] (by decide) rfl) hN⟩ rfl rfl hl.1 rfl (lv_room (Nat.le_of_ble_eq_true rfl)) dX4_linear_1 ⟨Nat.zero_le _, Nat.zero_le _⟩) hS (fun q _ h => hFc q h) hFc (fun rz u t H locs ht hvm hw hB hz1 hk1 hS => ?_)
  obtain ⟨hP, hD⟩ := jn (wr := [(ax, .inr (4, [.ref axr, .ref axt, .ref axm, .ref axb, .ref axe, .int vxk])), (axb, .inr (3, [.int vxbb]))]) (w1 := []) (ws' := [(ax, .inr (4, [.ref axr, .ref axt, .ref axm, .ref axb, .ref axe, .int vxk])), (axb, .inr (3, [.int vxbb]))]) hP hD [] [0, 1] rfl rfl (by decide) (by decide) hk1 hFc hB ht [0, 1] rfl (by decide) rfl
  obtain ⟨hw, br1⟩ := hw
  replace hw := hw.symm
  subst hw
  clear hFc hB hk1 hz1 hvm
  refine lv_if_ne (tgt := 10) hx hb dX4_linear_4 (by decide) (fun c3 => ?_) (fun c3 => ?_)
  · rw [if_neg c3] at h
    refine lv_aload_n hx hb dX4_linear_10 rfl (lv_at hl 0 rfl) ?_
    refine va_get (D := (dC, dI)) (ci := 4) (v := .ref axb) (C := RX4) (T := TX4) (N := 6) hx hb hts hin_X4 hown hK hP 0 rfl rfl 3 (by decide) (hf_29) (fun _ h9 => h9) rfl dX4_linear_11 ?_
    refine lv_iload_n hx hb dX4_linear_14 rfl (lv_at hl 1 rfl) ?_
    obtain ⟨r2, hr2, h⟩ := bd_some h
    have hFc := va_free (wc := []) hD hS hA [] rfl
    refine va_calli (va_runS (As := [.int p0]) (rest := [.ref axb]) ⟨hx, hb, hml, hown, hts⟩ (c_X3_parities l dC dI cy  H.size  p0 r2 hr2) (va_cwS 1 hts gX4_linear_X3_parities rfl rfl rfl (by decide +kernel) ⟨Nat.le_of_ble_eq_true rfl, Nat.le_of_ble_eq_true rfl⟩) ⟨PW_fb, PW_pre (hP.sub (ws' := []) [] rfl) hK (hD.sub [] (by decide) rfl) hN⟩ rfl rfl hl.1 rfl (lv_room (Nat.le_of_ble_eq_true rfl)) dX4_linear_15 ⟨Nat.zero_le _, Nat.zero_le _⟩) hS (fun q _ h => hFc q h) hFc (fun rz u t H locs ht hvm hw hB hz1 hk1 hS => ?_)
    obtain ⟨hP, hD⟩ := jn (wr := [(ax, .inr (4, [.ref axr, .ref axt, .ref axm, .ref axb, .ref axe, .int vxk])), (axb, .inr (3, [.int vxbb]))]) (w1 := []) (ws' := [(ax, .inr (4, [.ref axr, .ref axt, .ref axm, .ref axb, .ref axe, .int vxk])), (axb, .inr (3, [.int vxbb]))]) hP hD [] [0, 1] rfl rfl (by decide) (by decide) hk1 hFc hB ht [0, 1] rfl (by decide) rfl
    replace hw := hw.symm
    subst hw
    clear hFc hB hk1 hz1 hvm
    refine va_putN (D := (dC, dI)) (ci := 3) (v := .int r2) (ty := .int) (C := RX3) (T := TX3) (N := 1) hx hb hts hin_X3 tyX3 tyX3_ok nmX3 hown hK hP hD hS 1 rfl rfl 0 (by decide) (va_Nw.use rfl (hN.2.2.1)) (fun _ h9 => h9) rfl (by decide +kernel) rfl rfl (Nat.le_of_ble_eq_true rfl) dX4_linear_18 (fun H locs hP hD hS => ?_)
    replace hP : va_P (dC, dI) vwCl [(ax, .inr (4, [.ref axr, .ref axt, .ref axm, .ref axb, .ref axe, .int vxk])), (axb, .inr (3, [.int r2]))] H := hP
    replace hD : va_D A [(ax, .inr (4, [.ref axr, .ref axt, .ref axm, .ref axb, .ref axe, .int vxk])), (axb, .inr (3, [.int r2]))] := hD
    refine lv_iconst (v := (1 : Int32)) hx hb dX4_linear_21 (by decide) ?_
    have h0 := Option.some.inj h
    subst h0
    exact W.iret hx hb hr (fun t ht hW => ⟨⟨_, (), rfl, rfl, QW_mk hP hK hD ht hW⟩, hS.F ht⟩) hS.2.2 dX4_linear_22
  · rw [if_pos c3] at h
    refine lv_bipush (v := (-2 : Int32)) hx hb dX4_linear_7 (by decide) ?_
    have h0 := Option.some.inj h
    subst h0
    exact W.iret hx hb hr (fun t ht hW => ⟨⟨_, (), rfl, rfl, QW_mk hP hK hD ht hW⟩, hS.F ht⟩) hS.2.2 dX4_linear_9

noncomputable def fX4_line (fxej : Nat → Int32) (p0 : Int32) (p1 : Int32) (p2 : Int32) : Option (Int32 × (Nat → Int32)) := bd (fX4_isPoint p0) fun r1 => if r1 = 0 then (some ((-2 : Int32), fxej)) else (bd (fX4_isPoint p1) fun r2 => if r2 = 0 then (some ((-2 : Int32), fxej)) else (if p0 = p1 then (some ((-2 : Int32), fxej)) else (bd (fX1_joined fxej p0 p1) fun r3 => bd (fX1_join fxej p0 p1 p2) fun r4 => some (r3, r4))))
set_option maxHeartbeats 4000000 in
set_option maxRecDepth 100000 in
theorem c_X4_line (l : Launch) (dC : Nat → ClassId) (dI : Nat → Nat → Nat) (cy : ClassId) (ax axr axt axm axb axe axej : Nat) (sz : Nat) (vxk : Int32) (fxej : Nat → Int32) (p0 : Int32) (p1 : Int32) (p2 : Int32) (res : Int32 × (Nat → Int32)) (h : fX4_line fxej p0 p1 p2 = some res) : Met l yX4_line wsX4_line ({ frames := 2, cells := 0, slots := 0, locals := 42 }) (va_Pc [.ref ax, .int p0, .int p1, .int p2] (PW (dC, dI) cy sz [(ax, .inr (4, [.ref axr, .ref axt, .ref axm, .ref axb, .ref axe, .int vxk])), (axe, .inr (1, [.ref axej])), (axej, .inl (cy, 6, .inl fxej))])) (va_Qi (fun (r : Int32) (_ : Unit) => r = res.1) (QW (dC, dI) cy (va_A [(ax, .inr (4, [.ref axr, .ref axt, .ref axm, .ref axb, .ref axe, .int vxk])), (axe, .inr (1, [.ref axej])), (axej, .inl (cy, 6, .inl fxej))] sz) [(ax, .inr (4, [.ref axr, .ref axt, .ref axm, .ref axb, .ref axe, .int vxk])), (axe, .inr (1, [.ref axej])), (axej, .inl (cy, 6, .inl res.2))]) (va_A [(ax, .inr (4, [.ref axr, .ref axt, .ref axm, .ref axb, .ref axe, .int vxk])), (axe, .inr (1, [.ref axej])), (axej, .inl (cy, 6, .inl fxej))] sz)) 0 0 (va_A [(ax, .inr (4, [.ref axr, .ref axt, .ref axm, .ref axb, .ref axe, .int vxk])), (axe, .inr (1, [.ref axej])), (axej, .inl (cy, 6, .inl fxej))] sz) := by
  refine Met.ofW (cc := cX4_line) (maxL := 5) (ret := (some .int)) (by decide) rfl ?_
  intro p e s m args below meth c s₁ B hml hv
  obtain ⟨rfl, hsz, hP, hK, hD0, hN⟩ := hv
  have hx := B.exec
  have hb := B.bytes
  have hr := B.returns
  have hts := atoms_spec (ws := wsX4_line) B.pre
  have hown : s.vm.findClass RX4 = some m.cls := findClass_of_methodNamed B.named
  have hlocks := B.notSynchronized
  subst hsz
  have hD := hD0.self (sz := s.heap.size)
  clear hD0
  generalize hAe : va_A [(ax, .inr (4, [.ref axr, .ref axt, .ref axm, .ref axb, .ref axe, .int vxk])), (axe, .inr (1, [.ref axej])), (axej, .inl (cy, 6, .inl fxej))] s.heap.size = A at hD ⊢
  have hA : ∀ q : Nat, s.heap.size ≤ q → A q := fun q h => by rw [← hAe]; exact Or.inr h
  have hS : va_S A s.heap s.heap [] := va_S.rf
  have hl := lv_entry ([.ref ax, .int p0, .int p1, .int p2]) (n := 5) (Nat.le_of_ble_eq_true rfl)
  rw [lg_entry_eq]
  generalize (lg_sl ([.ref ax, .int p0, .int p1, .int p2]) ++ List.replicate (5 - (lg_sl ([.ref ax, .int p0, .int p1, .int p2])).length) Slot.unset).toArray = ls at hl ⊢
  replace hl : lv_has ls 5 [(0, .ref ax), (1, .int p0), (2, .int p1), (3, .int p2)] := hl
  replace hP : va_P (dC, dI) vwCl [(ax, .inr (4, [.ref axr, .ref axt, .ref axm, .ref axb, .ref axe, .int vxk])), (axe, .inr (1, [.ref axej])), (axej, .inl (cy, 6, .inl fxej))] s.heap := hP
  obtain ⟨locs, hlocs⟩ : ∃ lc : List Loc, lc = [] := ⟨_, rfl⟩
  rw [← hlocs] at hS ⊢
  obtain ⟨H, hH⟩ : ∃ H : Heap, H = s.heap := ⟨_, rfl⟩
  have hP2 := hP; rw [← hH] at hP2
  have hS2 : va_S A s.heap H locs := by rw [hH]; exact hS
  suffices hgo : W p l e (headSpec wsX4_line ({ frames := 2, cells := 0, slots := 0, locals := 42 })).room s m (([.ref ax, .int p0, .int p1, .int p2] : List Value).toArray) below meth c H locs 0 0 (MQ below (va_Qi (fun (r : Int32) (_ : Unit) => r = res.1) (QW (dC, dI) cy A [(ax, .inr (4, [.ref axr, .ref axt, .ref axm, .ref axb, .ref axe, .int vxk])), (axe, .inr (1, [.ref axej])), (axej, .inl (cy, 6, .inl res.2))]) A) (([.ref ax, .int p0, .int p1, .int p2] : List Value).toArray) s 0 0 A) (F0 m 0 ls []) by rw [hH] at hgo; exact hgo
  replace hP := hP2
  replace hS := hS2
  clear hP2 hS2
  have hin_X4 : ∀ w ∈ wsX40, w ∈ wsX4_line := by decide +kernel
  have hf_36 := hts (.fieldLink RX4 36 "FewLooks" "net" "LFewLooks$Net;") (by decide +kernel)
  unfold fX4_line at h
  refine lv_iload_n hx hb dX4_line_0 rfl (lv_at hl 1 rfl) ?_
  obtain ⟨r1, hr1, h⟩ := bd_some h
  have hFc := va_free (wc := []) hD hS hA [] rfl
  refine va_calli (va_runS (As := [.int p0]) (rest := []) ⟨hx, hb, hml, hown, hts⟩ (c_X4_isPoint l dC dI cy  H.size  p0 r1 hr1) (va_cwS 1 hts gX4_line_X4_isPoint rfl rfl rfl (by decide +kernel) ⟨Nat.le_of_ble_eq_true rfl, Nat.le_of_ble_eq_true rfl⟩) ⟨PW_fb, PW_pre (hP.sub (ws' := []) [] rfl) hK (hD.sub [] (by decide) rfl) hN⟩ rfl rfl hl.1 rfl (lv_room (Nat.le_of_ble_eq_true rfl)) dX4_line_1 ⟨Nat.zero_le _, Nat.zero_le _⟩) hS (fun q _ h => hFc q h) hFc (fun rz u t H locs ht hvm hw hB hz1 hk1 hS => ?_)
  obtain ⟨hP, hD⟩ := jn (wr := [(ax, .inr (4, [.ref axr, .ref axt, .ref axm, .ref axb, .ref axe, .int vxk])), (axe, .inr (1, [.ref axej])), (axej, .inl (cy, 6, .inl fxej))]) (w1 := []) (ws' := [(ax, .inr (4, [.ref axr, .ref axt, .ref axm, .ref axb, .ref axe, .int vxk])), (axe, .inr (1, [.ref axej])), (axej, .inl (cy, 6, .inl fxej))]) hP hD [] [0, 1, 2] rfl rfl (by decide) (by decide) hk1 hFc hB ht [0, 1, 2] rfl (by decide) rfl
  obtain ⟨hw, br1⟩ := hw
  replace hw := hw.symm
  subst hw
  clear hFc hB hk1 hz1 hvm
  refine lv_if_eq (tgt := 19) hx hb dX4_line_4 (by decide) (fun c7 => ?_) (fun c7 => ?_)
  · rw [if_pos c7] at h
    refine lv_bipush (v := (-2 : Int32)) hx hb dX4_line_19 (by decide) ?_
    have h0 := Option.some.inj h
    subst h0
    exact W.iret hx hb hr (fun t ht hW => ⟨⟨_, (), rfl, rfl, QW_mk hP hK hD ht hW⟩, hS.F ht⟩) hS.2.2 dX4_line_21
  · rw [if_neg c7] at h
    refine lv_iload_n hx hb dX4_line_7 rfl (lv_at hl 2 rfl) ?_
    obtain ⟨r2, hr2, h⟩ := bd_some h
    have hFc := va_free (wc := []) hD hS hA [] rfl
    refine va_calli (va_runS (As := [.int p1]) (rest := []) ⟨hx, hb, hml, hown, hts⟩ (c_X4_isPoint l dC dI cy  H.size  p1 r2 hr2) (va_cwS 1 hts gX4_line_X4_isPoint rfl rfl rfl (by decide +kernel) ⟨Nat.le_of_ble_eq_true rfl, Nat.le_of_ble_eq_true rfl⟩) ⟨PW_fb, PW_pre (hP.sub (ws' := []) [] rfl) hK (hD.sub [] (by decide) rfl) hN⟩ rfl rfl hl.1 rfl (lv_room (Nat.le_of_ble_eq_true rfl)) dX4_line_8 ⟨Nat.zero_le _, Nat.zero_le _⟩) hS (fun q _ h => hFc q h) hFc (fun rz u t H locs ht hvm hw hB hz1 hk1 hS => ?_)
    obtain ⟨hP, hD⟩ := jn (wr := [(ax, .inr (4, [.ref axr, .ref axt, .ref axm, .ref axb, .ref axe, .int vxk])), (axe, .inr (1, [.ref axej])), (axej, .inl (cy, 6, .inl fxej))]) (w1 := []) (ws' := [(ax, .inr (4, [.ref axr, .ref axt, .ref axm, .ref axb, .ref axe, .int vxk])), (axe, .inr (1, [.ref axej])), (axej, .inl (cy, 6, .inl fxej))]) hP hD [] [0, 1, 2] rfl rfl (by decide) (by decide) hk1 hFc hB ht [0, 1, 2] rfl (by decide) rfl
    obtain ⟨hw, br2⟩ := hw
    replace hw := hw.symm
    subst hw
    clear hFc hB hk1 hz1 hvm
    refine lv_if_eq (tgt := 19) hx hb dX4_line_11 (by decide) (fun c6 => ?_) (fun c6 => ?_)
    · rw [if_pos c6] at h
      refine lv_bipush (v := (-2 : Int32)) hx hb dX4_line_19 (by decide) ?_
      have h0 := Option.some.inj h
      subst h0
      exact W.iret hx hb hr (fun t ht hW => ⟨⟨_, (), rfl, rfl, QW_mk hP hK hD ht hW⟩, hS.F ht⟩) hS.2.2 dX4_line_21
    · rw [if_neg c6] at h
      refine lv_iload_n hx hb dX4_line_14 rfl (lv_at hl 1 rfl) ?_
      refine lv_iload_n hx hb dX4_line_15 rfl (lv_at hl 2 rfl) ?_
      refine lv_icmp_ne (tgt := 22) hx hb dX4_line_16 (by decide) (fun c5 => ?_) (fun c5 => ?_)
      · rw [if_neg c5] at h
        refine lv_aload_n hx hb dX4_line_22 rfl (lv_at hl 0 rfl) ?_
        refine va_get (D := (dC, dI)) (ci := 4) (v := .ref axe) (C := RX4) (T := TX4) (N := 6) hx hb hts hin_X4 hown hK hP 0 rfl rfl 4 (by decide) (hf_36) (fun _ h9 => h9) rfl dX4_line_23 ?_
        refine lv_iload_n hx hb dX4_line_26 rfl (lv_at hl 1 rfl) ?_
        refine lv_iload_n hx hb dX4_line_27 rfl (lv_at hl 2 rfl) ?_
        obtain ⟨r3, hr3, h⟩ := bd_some h
        have hFc := va_free (wc := [(axe, .inr (1, [.ref axej])), (axej, .inl (cy, 6, .inl fxej))]) hD hS hA [1, 2] rfl
        refine va_calli (va_runV (As := [.int p0, .int p1]) (rest := []) ⟨hx, hb, hml, hown, hts⟩ (c_X1_joined l dC dI cy axe axej H.size fxej p0 p1 r3 hr3) (cwV 2 hts gX4_line_X1_joined rfl rfl rfl (by decide +kernel) ⟨Nat.le_of_ble_eq_true rfl, Nat.le_of_ble_eq_true rfl⟩) ⟨PW_fb, va_recv hK hP (ci := 1) (q0 := 1) rfl rfl, PW_pre (hP.sub (ws' := [(axe, .inr (1, [.ref axej])), (axej, .inl (cy, 6, .inl fxej))]) [1, 2] rfl) hK (hD.sub [1, 2] (by decide) rfl) hN⟩ rfl rfl hl.1 rfl (lv_room (Nat.le_of_ble_eq_true rfl)) dX4_line_28 ⟨Nat.zero_le _, Nat.zero_le _⟩) hS (fun q _ h => hFc q h) hFc (fun rz u t H locs ht hvm hw hB hz1 hk1 hS => ?_)
        obtain ⟨hP, hD⟩ := jn (wr := [(ax, .inr (4, [.ref axr, .ref axt, .ref axm, .ref axb, .ref axe, .int vxk]))]) (w1 := [(axe, .inr (1, [.ref axej])), (axej, .inl (cy, 6, .inl fxej))]) (ws' := [(ax, .inr (4, [.ref axr, .ref axt, .ref axm, .ref axb, .ref axe, .int vxk])), (axe, .inr (1, [.ref axej])), (axej, .inl (cy, 6, .inl fxej))]) hP hD [1, 2] [0] rfl rfl (by decide) (by decide) hk1 hFc hB ht [0, 1, 2] rfl (by decide) rfl
        replace hw := hw.symm
        subst hw
        clear hFc hB hk1 hz1 hvm
        refine lv_istore (lv' := [(4, .int r3), (0, .ref ax), (1, .int p0), (2, .int p1), (3, .int p2)]) hx hb dX4_line_31 hl (by decide) rfl (fun ls hl => ?_)
        refine lv_aload_n hx hb dX4_line_33 rfl (lv_at hl 1 rfl) ?_
        refine va_get (D := (dC, dI)) (ci := 4) (v := .ref axe) (C := RX4) (T := TX4) (N := 6) hx hb hts hin_X4 hown hK hP 0 rfl rfl 4 (by decide) (hf_36) (fun _ h9 => h9) rfl dX4_line_34 ?_
        refine lv_iload_n hx hb dX4_line_37 rfl (lv_at hl 2 rfl) ?_
        refine lv_iload_n hx hb dX4_line_38 rfl (lv_at hl 3 rfl) ?_
        refine lv_iload_n hx hb dX4_line_39 rfl (lv_at hl 4 rfl) ?_
        obtain ⟨r4, hr4, h⟩ := bd_some h
        have hFc := va_free (wc := [(axe, .inr (1, [.ref axej])), (axej, .inl (cy, 6, .inl fxej))]) hD hS hA [1, 2] rfl
        refine va_callv (va_runV (As := [.int p0, .int p1, .int p2]) (rest := []) ⟨hx, hb, hml, hown, hts⟩ (c_X1_join l dC dI cy axe axej H.size fxej p0 p1 p2 r4 hr4) (cwV 3 hts gX4_line_X1_join rfl rfl rfl (by decide +kernel) ⟨Nat.le_of_ble_eq_true rfl, Nat.le_of_ble_eq_true rfl⟩) ⟨PW_fb, va_recv hK hP (ci := 1) (q0 := 1) rfl rfl, PW_pre (hP.sub (ws' := [(axe, .inr (1, [.ref axej])), (axej, .inl (cy, 6, .inl fxej))]) [1, 2] rfl) hK (hD.sub [1, 2] (by decide) rfl) hN⟩ rfl rfl hl.1 rfl (lv_room (Nat.le_of_ble_eq_true rfl)) dX4_line_40 ⟨Nat.zero_le _, Nat.zero_le _⟩) hS (fun q _ h => hFc q h) hFc (fun u t H locs ht hvm hw hB hz1 hk1 hS => ?_)
        obtain ⟨hP, hD⟩ := jn (wr := [(ax, .inr (4, [.ref axr, .ref axt, .ref axm, .ref axb, .ref axe, .int vxk]))]) (w1 := [(axe, .inr (1, [.ref axej])), (axej, .inl (cy, 6, .inl r4))]) (ws' := [(ax, .inr (4, [.ref axr, .ref axt, .ref axm, .ref axb, .ref axe, .int vxk])), (axe, .inr (1, [.ref axej])), (axej, .inl (cy, 6, .inl r4))]) hP hD [1, 2] [0] rfl rfl (by decide) (by decide) hk1 hFc hB ht [0, 1, 2] rfl (by decide) rfl
        clear hFc hB hk1 hz1 hvm
        refine lv_iload hx hb dX4_line_43 (lv_at hl 0 rfl) ?_
        have h0 := Option.some.inj h
        subst h0
        exact W.iret hx hb hr (fun t ht hW => ⟨⟨_, (), rfl, rfl, QW_mk hP hK hD ht hW⟩, hS.F ht⟩) hS.2.2 dX4_line_45
      · rw [if_pos c5] at h
        refine lv_bipush (v := (-2 : Int32)) hx hb dX4_line_19 (by decide) ?_
        have h0 := Option.some.inj h
        subst h0
        exact W.iret hx hb hr (fun t ht hW => ⟨⟨_, (), rfl, rfl, QW_mk hP hK hD ht hW⟩, hS.F ht⟩) hS.2.2 dX4_line_21

noncomputable def fX4_draw (vxk : Int32) (p0 : Int32) : Option (Int32 × Int32) := bd (fX4_within p0 (1 : Int32) (6 : Int32)) fun r1 => if r1 = 0 then (some ((-2 : Int32), vxk)) else (some (vxk, p0))
set_option maxHeartbeats 4000000 in
set_option maxRecDepth 100000 in
theorem c_X4_draw (l : Launch) (dC : Nat → ClassId) (dI : Nat → Nat → Nat) (cy : ClassId) (ax axr axt axm axb axe : Nat) (sz : Nat) (vxk : Int32) (p0 : Int32) (res : Int32 × Int32) (h : fX4_draw vxk p0 = some res) : Met l yX4_draw wsX4_draw ({ frames := 1, cells := 0, slots := 0, locals := 22 }) (va_Pc [.ref ax, .int p0] (PW (dC, dI) cy sz [(ax, .inr (4, [.ref axr, .ref axt, .ref axm, .ref axb, .ref axe, .int vxk]))])) (va_Qi (fun (r : Int32) (_ : Unit) => r = res.1) (QW (dC, dI) cy (va_A [(ax, .inr (4, [.ref axr, .ref axt, .ref axm, .ref axb, .ref axe, .int vxk]))] sz) [(ax, .inr (4, [.ref axr, .ref axt, .ref axm, .ref axb, .ref axe, .int res.2]))]) (va_A [(ax, .inr (4, [.ref axr, .ref axt, .ref axm, .ref axb, .ref axe, .int vxk]))] sz)) 0 0 (va_A [(ax, .inr (4, [.ref axr, .ref axt, .ref axm, .ref axb, .ref axe, .int vxk]))] sz) := by
  refine Met.ofW (cc := cX4_draw) (maxL := 3) (ret := (some .int)) (by decide) rfl ?_
  intro p e s m args below meth c s₁ B hml hv
  obtain ⟨rfl, hsz, hP, hK, hD0, hN⟩ := hv
  have hx := B.exec
  have hb := B.bytes
  have hr := B.returns
  have hts := atoms_spec (ws := wsX4_draw) B.pre
  have hown : s.vm.findClass RX4 = some m.cls := findClass_of_methodNamed B.named
  have hlocks := B.notSynchronized
  subst hsz
  have hD := hD0.self (sz := s.heap.size)
  clear hD0
  generalize hAe : va_A [(ax, .inr (4, [.ref axr, .ref axt, .ref axm, .ref axb, .ref axe, .int vxk]))] s.heap.size = A at hD ⊢
  have hA : ∀ q : Nat, s.heap.size ≤ q → A q := fun q h => by rw [← hAe]; exact Or.inr h
  have hS : va_S A s.heap s.heap [] := va_S.rf
  have hl := lv_entry ([.ref ax, .int p0]) (n := 3) (Nat.le_of_ble_eq_true rfl)
  rw [lg_entry_eq]
  generalize (lg_sl ([.ref ax, .int p0]) ++ List.replicate (3 - (lg_sl ([.ref ax, .int p0])).length) Slot.unset).toArray = ls at hl ⊢
  replace hl : lv_has ls 3 [(0, .ref ax), (1, .int p0)] := hl
  replace hP : va_P (dC, dI) vwCl [(ax, .inr (4, [.ref axr, .ref axt, .ref axm, .ref axb, .ref axe, .int vxk]))] s.heap := hP
  obtain ⟨locs, hlocs⟩ : ∃ lc : List Loc, lc = [] := ⟨_, rfl⟩
  rw [← hlocs] at hS ⊢
  obtain ⟨H, hH⟩ : ∃ H : Heap, H = s.heap := ⟨_, rfl⟩
  have hP2 := hP; rw [← hH] at hP2
  have hS2 : va_S A s.heap H locs := by rw [hH]; exact hS
  suffices hgo : W p l e (headSpec wsX4_draw ({ frames := 1, cells := 0, slots := 0, locals := 22 })).room s m (([.ref ax, .int p0] : List Value).toArray) below meth c H locs 0 0 (MQ below (va_Qi (fun (r : Int32) (_ : Unit) => r = res.1) (QW (dC, dI) cy A [(ax, .inr (4, [.ref axr, .ref axt, .ref axm, .ref axb, .ref axe, .int res.2]))]) A) (([.ref ax, .int p0] : List Value).toArray) s 0 0 A) (F0 m 0 ls []) by rw [hH] at hgo; exact hgo
  replace hP := hP2
  replace hS := hS2
  clear hP2 hS2
  have hin_X4 : ∀ w ∈ wsX40, w ∈ wsX4_draw := by decide +kernel
  have hf_40 := hts (.fieldLink RX4 40 "FewLooks" "drawn" "I") (by decide +kernel)
  unfold fX4_draw at h
  refine lv_iload_n hx hb dX4_draw_0 rfl (lv_at hl 1 rfl) ?_
  refine lv_iconst (v := (1 : Int32)) hx hb dX4_draw_1 (by decide) ?_
  refine lv_bipush (v := (6 : Int32)) hx hb dX4_draw_2 (by decide) ?_
  obtain ⟨r1, hr1, h⟩ := bd_some h
  have hFc := va_free (wc := []) hD hS hA [] rfl
  refine va_calli (va_runS (As := [.int p0, .int (1 : Int32), .int (6 : Int32)]) (rest := []) ⟨hx, hb, hml, hown, hts⟩ (c_X4_within l dC dI cy  H.size  p0 (1 : Int32) (6 : Int32) r1 hr1) (va_cwS 3 hts gX4_draw_X4_within rfl rfl rfl (by decide +kernel) ⟨Nat.le_of_ble_eq_true rfl, Nat.le_of_ble_eq_true rfl⟩) ⟨PW_fb, PW_pre (hP.sub (ws' := []) [] rfl) hK (hD.sub [] (by decide) rfl) hN⟩ rfl rfl hl.1 rfl (lv_room (Nat.le_of_ble_eq_true rfl)) dX4_draw_4 ⟨Nat.zero_le _, Nat.zero_le _⟩) hS (fun q _ h => hFc q h) hFc (fun rz u t H locs ht hvm hw hB hz1 hk1 hS => ?_)
  obtain ⟨hP, hD⟩ := jn (wr := [(ax, .inr (4, [.ref axr, .ref axt, .ref axm, .ref axb, .ref axe, .int vxk]))]) (w1 := []) (ws' := [(ax, .inr (4, [.ref axr, .ref axt, .ref axm, .ref axb, .ref axe, .int vxk]))]) hP hD [] [0] rfl rfl (by decide) (by decide) hk1 hFc hB ht [0] rfl (by decide) rfl
  obtain ⟨hw, br1⟩ := hw
  replace hw := hw.symm
  subst hw
  clear hFc hB hk1 hz1 hvm
  refine lv_if_ne (tgt := 13) hx hb dX4_draw_7 (by decide) (fun c2 => ?_) (fun c2 => ?_)
  · rw [if_neg c2] at h
    refine lv_aload_n hx hb dX4_draw_13 rfl (lv_at hl 0 rfl) ?_
    refine va_get (D := (dC, dI)) (ci := 4) (v := .int vxk) (C := RX4) (T := TX4) (N := 6) hx hb hts hin_X4 hown hK hP 0 rfl rfl 5 (by decide) (hf_40) (fun _ h9 => h9) rfl dX4_draw_14 ?_
    refine lv_istore_n (lv' := [(2, .int vxk), (0, .ref ax), (1, .int p0)]) hx hb dX4_draw_17 rfl hl (by decide) rfl (fun ls hl => ?_)
    refine lv_aload_n hx hb dX4_draw_18 rfl (lv_at hl 1 rfl) ?_
    refine lv_iload_n hx hb dX4_draw_19 rfl (lv_at hl 2 rfl) ?_
    refine va_put (D := (dC, dI)) (ci := 4) (v := .int p0) (ty := .int) (C := RX4) (T := TX4) (N := 6) hx hb hts hin_X4 tyX4 tyX4_ok nmX4 hown hK hP hD hS 0 rfl rfl 5 (by decide) (hf_40) (fun _ h9 => h9) rfl (by decide +kernel) rfl rfl (Nat.le_of_ble_eq_true rfl) dX4_draw_20 (fun H locs hP hD hS => ?_)
    replace hP : va_P (dC, dI) vwCl [(ax, .inr (4, [.ref axr, .ref axt, .ref axm, .ref axb, .ref axe, .int p0]))] H := hP
    replace hD : va_D A [(ax, .inr (4, [.ref axr, .ref axt, .ref axm, .ref axb, .ref axe, .int p0]))] := hD
    refine lv_iload_n hx hb dX4_draw_23 rfl (lv_at hl 0 rfl) ?_
    have h0 := Option.some.inj h
    subst h0
    exact W.iret hx hb hr (fun t ht hW => ⟨⟨_, (), rfl, rfl, QW_mk hP hK hD ht hW⟩, hS.F ht⟩) hS.2.2 dX4_draw_24
  · rw [if_pos c2] at h
    refine lv_bipush (v := (-2 : Int32)) hx hb dX4_draw_10 (by decide) ?_
    have h0 := Option.some.inj h
    subst h0
    exact W.iret hx hb hr (fun t ht hW => ⟨⟨_, (), rfl, rfl, QW_mk hP hK hD ht hW⟩, hS.F ht⟩) hS.2.2 dX4_draw_12

noncomputable def fX4_howFar (vxrs : Int32) (fxrd : Nat → Int32) (vxmns : Int32) (fxmnd : Nat → Int32) (vxmgs : Int32) (fxmgd : Nat → Int32) (fxmc : Nat → Int32) (vxbb : Int32) (fxej : Nat → Int32) (p0 : Int32) : Option (Int32 × Int32 × (Nat → Int32) × Int32 × (Nat → Int32) × (Nat → Int32)) := bd (fX4_isRow p0) fun r1 => if r1 = 0 then (if p0 = (4 : Int32) then (bd (fX3_closest vxbb) fun r4 => bd (fX3_differing vxbb r4) fun r5 => some (r5, vxmns, fxmnd, vxmgs, fxmgd, fxmc)) else (bd (fX1_bestColouring fxej) fun r2 => bd (fX1_likeLines fxej (63 : Int32) r2) fun r3 => some (r3, vxmns, fxmnd, vxmgs, fxmgd, fxmc))) else (bd (fX0_seek vxmns fxmnd vxmgs fxmgd fxmc vxrs fxrd p0) fun r7 => some (r7.1, r7.2.1, r7.2.2.1, r7.2.2.2.1, r7.2.2.2.2.1, r7.2.2.2.2.2))
set_option maxHeartbeats 4000000 in
set_option maxRecDepth 100000 in
theorem c_X4_howFar (l : Launch) (dC : Nat → ClassId) (dI : Nat → Nat → Nat) (cy : ClassId) (ax axr axt axm axb axe axrd axmn axmg axmc axmnd axmgd axej : Nat) (sz : Nat) (vxk : Int32) (vxrs : Int32) (fxrd : Nat → Int32) (vxmns : Int32) (fxmnd : Nat → Int32) (vxmgs : Int32) (fxmgd : Nat → Int32) (fxmc : Nat → Int32) (vxbb : Int32) (fxej : Nat → Int32) (p0 : Int32) (res : Int32 × Int32 × (Nat → Int32) × Int32 × (Nat → Int32) × (Nat → Int32)) (h : fX4_howFar vxrs fxrd vxmns fxmnd vxmgs fxmgd fxmc vxbb fxej p0 = some res) : Met l yX4_howFar wsX4_howFar ({ frames := 4, cells := 0, slots := 0, locals := 97 }) (va_Pc [.ref ax, .int p0] (PW (dC, dI) cy sz [(ax, .inr (4, [.ref axr, .ref axt, .ref axm, .ref axb, .ref axe, .int vxk])), (axr, .inr (2, [.ref axrd, .int vxrs])), (axrd, .inl (cy, 8, .inl fxrd)), (axm, .inr (0, [.ref axmn, .ref axmg, .ref axmc])), (axmn, .inr (2, [.ref axmnd, .int vxmns])), (axmnd, .inl (cy, 8, .inl fxmnd)), (axmg, .inr (2, [.ref axmgd, .int vxmgs])), (axmgd, .inl (cy, 8, .inl fxmgd)), (axmc, .inl (cy, 36, .inl fxmc)), (axb, .inr (3, [.int vxbb])), (axe, .inr (1, [.ref axej])), (axej, .inl (cy, 6, .inl fxej))])) (va_Qi (fun (r : Int32) (_ : Unit) => r = res.1) (QW (dC, dI) cy (va_A [(ax, .inr (4, [.ref axr, .ref axt, .ref axm, .ref axb, .ref axe, .int vxk])), (axr, .inr (2, [.ref axrd, .int vxrs])), (axrd, .inl (cy, 8, .inl fxrd)), (axm, .inr (0, [.ref axmn, .ref axmg, .ref axmc])), (axmn, .inr (2, [.ref axmnd, .int vxmns])), (axmnd, .inl (cy, 8, .inl fxmnd)), (axmg, .inr (2, [.ref axmgd, .int vxmgs])), (axmgd, .inl (cy, 8, .inl fxmgd)), (axmc, .inl (cy, 36, .inl fxmc)), (axb, .inr (3, [.int vxbb])), (axe, .inr (1, [.ref axej])), (axej, .inl (cy, 6, .inl fxej))] sz) [(ax, .inr (4, [.ref axr, .ref axt, .ref axm, .ref axb, .ref axe, .int vxk])), (axr, .inr (2, [.ref axrd, .int vxrs])), (axrd, .inl (cy, 8, .inl fxrd)), (axm, .inr (0, [.ref axmn, .ref axmg, .ref axmc])), (axmn, .inr (2, [.ref axmnd, .int res.2.1])), (axmnd, .inl (cy, 8, .inl res.2.2.1)), (axmg, .inr (2, [.ref axmgd, .int res.2.2.2.1])), (axmgd, .inl (cy, 8, .inl res.2.2.2.2.1)), (axmc, .inl (cy, 36, .inl res.2.2.2.2.2)), (axb, .inr (3, [.int vxbb])), (axe, .inr (1, [.ref axej])), (axej, .inl (cy, 6, .inl fxej))]) (va_A [(ax, .inr (4, [.ref axr, .ref axt, .ref axm, .ref axb, .ref axe, .int vxk])), (axr, .inr (2, [.ref axrd, .int vxrs])), (axrd, .inl (cy, 8, .inl fxrd)), (axm, .inr (0, [.ref axmn, .ref axmg, .ref axmc])), (axmn, .inr (2, [.ref axmnd, .int vxmns])), (axmnd, .inl (cy, 8, .inl fxmnd)), (axmg, .inr (2, [.ref axmgd, .int vxmgs])), (axmgd, .inl (cy, 8, .inl fxmgd)), (axmc, .inl (cy, 36, .inl fxmc)), (axb, .inr (3, [.int vxbb])), (axe, .inr (1, [.ref axej])), (axej, .inl (cy, 6, .inl fxej))] sz)) 0 0 (va_A [(ax, .inr (4, [.ref axr, .ref axt, .ref axm, .ref axb, .ref axe, .int vxk])), (axr, .inr (2, [.ref axrd, .int vxrs])), (axrd, .inl (cy, 8, .inl fxrd)), (axm, .inr (0, [.ref axmn, .ref axmg, .ref axmc])), (axmn, .inr (2, [.ref axmnd, .int vxmns])), (axmnd, .inl (cy, 8, .inl fxmnd)), (axmg, .inr (2, [.ref axmgd, .int vxmgs])), (axmgd, .inl (cy, 8, .inl fxmgd)), (axmc, .inl (cy, 36, .inl fxmc)), (axb, .inr (3, [.int vxbb])), (axe, .inr (1, [.ref axej])), (axej, .inl (cy, 6, .inl fxej))] sz) := by
  refine Met.ofW (cc := cX4_howFar) (maxL := 2) (ret := (some .int)) (by decide) rfl ?_
  intro p e s m args below meth c s₁ B hml hv
  obtain ⟨rfl, hsz, hP, hK, hD0, hN⟩ := hv
  have hx := B.exec
  have hb := B.bytes
  have hr := B.returns
  have hts := atoms_spec (ws := wsX4_howFar) B.pre
  have hown : s.vm.findClass RX4 = some m.cls := findClass_of_methodNamed B.named
  have hlocks := B.notSynchronized
  subst hsz
  have hD := hD0.self (sz := s.heap.size)
  clear hD0
  generalize hAe : va_A [(ax, .inr (4, [.ref axr, .ref axt, .ref axm, .ref axb, .ref axe, .int vxk])), (axr, .inr (2, [.ref axrd, .int vxrs])), (axrd, .inl (cy, 8, .inl fxrd)), (axm, .inr (0, [.ref axmn, .ref axmg, .ref axmc])), (axmn, .inr (2, [.ref axmnd, .int vxmns])), (axmnd, .inl (cy, 8, .inl fxmnd)), (axmg, .inr (2, [.ref axmgd, .int vxmgs])), (axmgd, .inl (cy, 8, .inl fxmgd)), (axmc, .inl (cy, 36, .inl fxmc)), (axb, .inr (3, [.int vxbb])), (axe, .inr (1, [.ref axej])), (axej, .inl (cy, 6, .inl fxej))] s.heap.size = A at hD ⊢
  have hA : ∀ q : Nat, s.heap.size ≤ q → A q := fun q h => by rw [← hAe]; exact Or.inr h
  have hS : va_S A s.heap s.heap [] := va_S.rf
  have hl := lv_entry ([.ref ax, .int p0]) (n := 2) (Nat.le_of_ble_eq_true rfl)
  rw [lg_entry_eq]
  generalize (lg_sl ([.ref ax, .int p0]) ++ List.replicate (2 - (lg_sl ([.ref ax, .int p0])).length) Slot.unset).toArray = ls at hl ⊢
  replace hl : lv_has ls 2 [(0, .ref ax), (1, .int p0)] := hl
  replace hP : va_P (dC, dI) vwCl [(ax, .inr (4, [.ref axr, .ref axt, .ref axm, .ref axb, .ref axe, .int vxk])), (axr, .inr (2, [.ref axrd, .int vxrs])), (axrd, .inl (cy, 8, .inl fxrd)), (axm, .inr (0, [.ref axmn, .ref axmg, .ref axmc])), (axmn, .inr (2, [.ref axmnd, .int vxmns])), (axmnd, .inl (cy, 8, .inl fxmnd)), (axmg, .inr (2, [.ref axmgd, .int vxmgs])), (axmgd, .inl (cy, 8, .inl fxmgd)), (axmc, .inl (cy, 36, .inl fxmc)), (axb, .inr (3, [.int vxbb])), (axe, .inr (1, [.ref axej])), (axej, .inl (cy, 6, .inl fxej))] s.heap := hP
  obtain ⟨locs, hlocs⟩ : ∃ lc : List Loc, lc = [] := ⟨_, rfl⟩
  rw [← hlocs] at hS ⊢
  obtain ⟨H, hH⟩ : ∃ H : Heap, H = s.heap := ⟨_, rfl⟩
  have hP2 := hP; rw [← hH] at hP2
  have hS2 : va_S A s.heap H locs := by rw [hH]; exact hS
  suffices hgo : W p l e (headSpec wsX4_howFar ({ frames := 4, cells := 0, slots := 0, locals := 97 })).room s m (([.ref ax, .int p0] : List Value).toArray) below meth c H locs 0 0 (MQ below (va_Qi (fun (r : Int32) (_ : Unit) => r = res.1) (QW (dC, dI) cy A [(ax, .inr (4, [.ref axr, .ref axt, .ref axm, .ref axb, .ref axe, .int vxk])), (axr, .inr (2, [.ref axrd, .int vxrs])), (axrd, .inl (cy, 8, .inl fxrd)), (axm, .inr (0, [.ref axmn, .ref axmg, .ref axmc])), (axmn, .inr (2, [.ref axmnd, .int res.2.1])), (axmnd, .inl (cy, 8, .inl res.2.2.1)), (axmg, .inr (2, [.ref axmgd, .int res.2.2.2.1])), (axmgd, .inl (cy, 8, .inl res.2.2.2.2.1)), (axmc, .inl (cy, 36, .inl res.2.2.2.2.2)), (axb, .inr (3, [.int vxbb])), (axe, .inr (1, [.ref axej])), (axej, .inl (cy, 6, .inl fxej))]) A) (([.ref ax, .int p0] : List Value).toArray) s 0 0 A) (F0 m 0 ls []) by rw [hH] at hgo; exact hgo
  replace hP := hP2
  replace hS := hS2
  clear hP2 hS2
  have hin_X4 : ∀ w ∈ wsX40, w ∈ wsX4_howFar := by decide +kernel
  have hf_10 := hts (.fieldLink RX4 10 "FewLooks" "row" "LFewLooks$Row;") (by decide +kernel)
  have hf_22 := hts (.fieldLink RX4 22 "FewLooks" "mender" "LFewLooks$Mender;") (by decide +kernel)
  have hf_29 := hts (.fieldLink RX4 29 "FewLooks" "table" "LFewLooks$Table;") (by decide +kernel)
  have hf_36 := hts (.fieldLink RX4 36 "FewLooks" "net" "LFewLooks$Net;") (by decide +kernel)
  unfold fX4_howFar at h
  refine lv_iload_n hx hb dX4_howFar_0 rfl (lv_at hl 1 rfl) ?_
  obtain ⟨r1, hr1, h⟩ := bd_some h
  have hFc := va_free (wc := []) hD hS hA [] rfl
  refine va_calli (va_runS (As := [.int p0]) (rest := []) ⟨hx, hb, hml, hown, hts⟩ (c_X4_isRow l dC dI cy  H.size  p0 r1 hr1) (va_cwS 1 hts gX4_howFar_X4_isRow rfl rfl rfl (by decide +kernel) ⟨Nat.le_of_ble_eq_true rfl, Nat.le_of_ble_eq_true rfl⟩) ⟨PW_fb, PW_pre (hP.sub (ws' := []) [] rfl) hK (hD.sub [] (by decide) rfl) hN⟩ rfl rfl hl.1 rfl (lv_room (Nat.le_of_ble_eq_true rfl)) dX4_howFar_1 ⟨Nat.zero_le _, Nat.zero_le _⟩) hS (fun q _ h => hFc q h) hFc (fun rz u t H locs ht hvm hw hB hz1 hk1 hS => ?_)
  obtain ⟨hP, hD⟩ := jn (wr := [(ax, .inr (4, [.ref axr, .ref axt, .ref axm, .ref axb, .ref axe, .int vxk])), (axr, .inr (2, [.ref axrd, .int vxrs])), (axrd, .inl (cy, 8, .inl fxrd)), (axm, .inr (0, [.ref axmn, .ref axmg, .ref axmc])), (axmn, .inr (2, [.ref axmnd, .int vxmns])), (axmnd, .inl (cy, 8, .inl fxmnd)), (axmg, .inr (2, [.ref axmgd, .int vxmgs])), (axmgd, .inl (cy, 8, .inl fxmgd)), (axmc, .inl (cy, 36, .inl fxmc)), (axb, .inr (3, [.int vxbb])), (axe, .inr (1, [.ref axej])), (axej, .inl (cy, 6, .inl fxej))]) (w1 := []) (ws' := [(ax, .inr (4, [.ref axr, .ref axt, .ref axm, .ref axb, .ref axe, .int vxk])), (axr, .inr (2, [.ref axrd, .int vxrs])), (axrd, .inl (cy, 8, .inl fxrd)), (axm, .inr (0, [.ref axmn, .ref axmg, .ref axmc])), (axmn, .inr (2, [.ref axmnd, .int vxmns])), (axmnd, .inl (cy, 8, .inl fxmnd)), (axmg, .inr (2, [.ref axmgd, .int vxmgs])), (axmgd, .inl (cy, 8, .inl fxmgd)), (axmc, .inl (cy, 36, .inl fxmc)), (axb, .inr (3, [.int vxbb])), (axe, .inr (1, [.ref axej])), (axej, .inl (cy, 6, .inl fxej))]) hP hD [] [0, 1, 2, 3, 4, 5, 6, 7, 8, 9, 10, 11] rfl rfl (by decide) (by decide) hk1 hFc hB ht [0, 1, 2, 3, 4, 5, 6, 7, 8, 9, 10, 11] rfl (by decide) rfl
  obtain ⟨hw, br1⟩ := hw
  replace hw := hw.symm
  subst hw
  clear hFc hB hk1 hz1 hvm
  refine lv_if_eq (tgt := 20) hx hb dX4_howFar_4 (by decide) (fun c8 => ?_) (fun c8 => ?_)
  · rw [if_pos c8] at h
    refine lv_iload_n hx hb dX4_howFar_20 rfl (lv_at hl 1 rfl) ?_
    refine lv_iconst (v := (4 : Int32)) hx hb dX4_howFar_21 (by decide) ?_
    refine lv_icmp_ne (tgt := 40) hx hb dX4_howFar_22 (by decide) (fun c6 => ?_) (fun c6 => ?_)
    · rw [if_neg c6] at h
      refine lv_aload_n hx hb dX4_howFar_40 rfl (lv_at hl 0 rfl) ?_
      refine va_get (D := (dC, dI)) (ci := 4) (v := .ref axe) (C := RX4) (T := TX4) (N := 6) hx hb hts hin_X4 hown hK hP 0 rfl rfl 4 (by decide) (hf_36) (fun _ h9 => h9) rfl dX4_howFar_41 ?_
      refine lv_bipush (v := (63 : Int32)) hx hb dX4_howFar_44 (by decide) ?_
      refine lv_aload_n hx hb dX4_howFar_46 rfl (lv_at hl 0 rfl) ?_
      refine va_get (D := (dC, dI)) (ci := 4) (v := .ref axe) (C := RX4) (T := TX4) (N := 6) hx hb hts hin_X4 hown hK hP 0 rfl rfl 4 (by decide) (hf_36) (fun _ h9 => h9) rfl dX4_howFar_47 ?_
      obtain ⟨r2, hr2, h⟩ := bd_some h
      have hFc := va_free (wc := [(axe, .inr (1, [.ref axej])), (axej, .inl (cy, 6, .inl fxej))]) hD hS hA [10, 11] rfl
      refine va_calli (va_runV (As := []) (rest := [.int (63 : Int32), .ref axe]) ⟨hx, hb, hml, hown, hts⟩ (c_X1_bestColouring l dC dI cy axe axej H.size fxej  r2 hr2) (cwV 0 hts gX4_howFar_X1_bestColouring rfl rfl rfl (by decide +kernel) ⟨Nat.le_of_ble_eq_true rfl, Nat.le_of_ble_eq_true rfl⟩) ⟨PW_fb, va_recv hK hP (ci := 1) (q0 := 10) rfl rfl, PW_pre (hP.sub (ws' := [(axe, .inr (1, [.ref axej])), (axej, .inl (cy, 6, .inl fxej))]) [10, 11] rfl) hK (hD.sub [10, 11] (by decide) rfl) hN⟩ rfl rfl hl.1 rfl (lv_room (Nat.le_of_ble_eq_true rfl)) dX4_howFar_50 ⟨Nat.zero_le _, Nat.zero_le _⟩) hS (fun q _ h => hFc q h) hFc (fun rz u t H locs ht hvm hw hB hz1 hk1 hS => ?_)
      obtain ⟨hP, hD⟩ := jn (wr := [(ax, .inr (4, [.ref axr, .ref axt, .ref axm, .ref axb, .ref axe, .int vxk])), (axr, .inr (2, [.ref axrd, .int vxrs])), (axrd, .inl (cy, 8, .inl fxrd)), (axm, .inr (0, [.ref axmn, .ref axmg, .ref axmc])), (axmn, .inr (2, [.ref axmnd, .int vxmns])), (axmnd, .inl (cy, 8, .inl fxmnd)), (axmg, .inr (2, [.ref axmgd, .int vxmgs])), (axmgd, .inl (cy, 8, .inl fxmgd)), (axmc, .inl (cy, 36, .inl fxmc)), (axb, .inr (3, [.int vxbb]))]) (w1 := [(axe, .inr (1, [.ref axej])), (axej, .inl (cy, 6, .inl fxej))]) (ws' := [(ax, .inr (4, [.ref axr, .ref axt, .ref axm, .ref axb, .ref axe, .int vxk])), (axr, .inr (2, [.ref axrd, .int vxrs])), (axrd, .inl (cy, 8, .inl fxrd)), (axm, .inr (0, [.ref axmn, .ref axmg, .ref axmc])), (axmn, .inr (2, [.ref axmnd, .int vxmns])), (axmnd, .inl (cy, 8, .inl fxmnd)), (axmg, .inr (2, [.ref axmgd, .int vxmgs])), (axmgd, .inl (cy, 8, .inl fxmgd)), (axmc, .inl (cy, 36, .inl fxmc)), (axb, .inr (3, [.int vxbb])), (axe, .inr (1, [.ref axej])), (axej, .inl (cy, 6, .inl fxej))]) hP hD [10, 11] [0, 1, 2, 3, 4, 5, 6, 7, 8, 9] rfl rfl (by decide) (by decide) hk1 hFc hB ht [0, 1, 2, 3, 4, 5, 6, 7, 8, 9, 10, 11] rfl (by decide) rfl
      replace hw := hw.symm
      subst hw
      clear hFc hB hk1 hz1 hvm
      obtain ⟨r3, hr3, h⟩ := bd_some h
      have hFc := va_free (wc := [(axe, .inr (1, [.ref axej])), (axej, .inl (cy, 6, .inl fxej))]) hD hS hA [10, 11] rfl
      refine va_calli (va_runV (As := [.int (63 : Int32), .int r2]) (rest := []) ⟨hx, hb, hml, hown, hts⟩ (c_X1_likeLines l dC dI cy axe axej H.size fxej (63 : Int32) r2 r3 hr3) (cwV 2 hts gX4_howFar_X1_likeLines rfl rfl rfl (by decide +kernel) ⟨Nat.le_of_ble_eq_true rfl, Nat.le_of_ble_eq_true rfl⟩) ⟨PW_fb, va_recv hK hP (ci := 1) (q0 := 10) rfl rfl, PW_pre (hP.sub (ws' := [(axe, .inr (1, [.ref axej])), (axej, .inl (cy, 6, .inl fxej))]) [10, 11] rfl) hK (hD.sub [10, 11] (by decide) rfl) hN⟩ rfl rfl hl.1 rfl (lv_room (Nat.le_of_ble_eq_true rfl)) dX4_howFar_53 ⟨Nat.zero_le _, Nat.zero_le _⟩) hS (fun q _ h => hFc q h) hFc (fun rz u t H locs ht hvm hw hB hz1 hk1 hS => ?_)
      obtain ⟨hP, hD⟩ := jn (wr := [(ax, .inr (4, [.ref axr, .ref axt, .ref axm, .ref axb, .ref axe, .int vxk])), (axr, .inr (2, [.ref axrd, .int vxrs])), (axrd, .inl (cy, 8, .inl fxrd)), (axm, .inr (0, [.ref axmn, .ref axmg, .ref axmc])), (axmn, .inr (2, [.ref axmnd, .int vxmns])), (axmnd, .inl (cy, 8, .inl fxmnd)), (axmg, .inr (2, [.ref axmgd, .int vxmgs])), (axmgd, .inl (cy, 8, .inl fxmgd)), (axmc, .inl (cy, 36, .inl fxmc)), (axb, .inr (3, [.int vxbb]))]) (w1 := [(axe, .inr (1, [.ref axej])), (axej, .inl (cy, 6, .inl fxej))]) (ws' := [(ax, .inr (4, [.ref axr, .ref axt, .ref axm, .ref axb, .ref axe, .int vxk])), (axr, .inr (2, [.ref axrd, .int vxrs])), (axrd, .inl (cy, 8, .inl fxrd)), (axm, .inr (0, [.ref axmn, .ref axmg, .ref axmc])), (axmn, .inr (2, [.ref axmnd, .int vxmns])), (axmnd, .inl (cy, 8, .inl fxmnd)), (axmg, .inr (2, [.ref axmgd, .int vxmgs])), (axmgd, .inl (cy, 8, .inl fxmgd)), (axmc, .inl (cy, 36, .inl fxmc)), (axb, .inr (3, [.int vxbb])), (axe, .inr (1, [.ref axej])), (axej, .inl (cy, 6, .inl fxej))]) hP hD [10, 11] [0, 1, 2, 3, 4, 5, 6, 7, 8, 9] rfl rfl (by decide) (by decide) hk1 hFc hB ht [0, 1, 2, 3, 4, 5, 6, 7, 8, 9, 10, 11] rfl (by decide) rfl
      replace hw := hw.symm
      subst hw
      clear hFc hB hk1 hz1 hvm
      have h0 := Option.some.inj h
      subst h0
      exact W.iret hx hb hr (fun t ht hW => ⟨⟨_, (), rfl, rfl, QW_mk hP hK hD ht hW⟩, hS.F ht⟩) hS.2.2 dX4_howFar_56
    · rw [if_pos c6] at h
      refine lv_aload_n hx hb dX4_howFar_25 rfl (lv_at hl 0 rfl) ?_
      refine va_get (D := (dC, dI)) (ci := 4) (v := .ref axb) (C := RX4) (T := TX4) (N := 6) hx hb hts hin_X4 hown hK hP 0 rfl rfl 3 (by decide) (hf_29) (fun _ h9 => h9) rfl dX4_howFar_26 ?_
      refine lv_aload_n hx hb dX4_howFar_29 rfl (lv_at hl 0 rfl) ?_
      refine va_get (D := (dC, dI)) (ci := 4) (v := .ref axb) (C := RX4) (T := TX4) (N := 6) hx hb hts hin_X4 hown hK hP 0 rfl rfl 3 (by decide) (hf_29) (fun _ h9 => h9) rfl dX4_howFar_30 ?_
      obtain ⟨r4, hr4, h⟩ := bd_some h
      have hFc := va_free (wc := [(axb, .inr (3, [.int vxbb]))]) hD hS hA [9] rfl
      refine va_calli (va_runV (As := []) (rest := [.ref axb]) ⟨hx, hb, hml, hown, hts⟩ (c_X3_closest l dC dI cy axb H.size vxbb  r4 hr4) (cwV 0 hts gX4_howFar_X3_closest rfl rfl rfl (by decide +kernel) ⟨Nat.le_of_ble_eq_true rfl, Nat.le_of_ble_eq_true rfl⟩) ⟨PW_fb, va_recv hK hP (ci := 3) (q0 := 9) rfl rfl, PW_pre (hP.sub (ws' := [(axb, .inr (3, [.int vxbb]))]) [9] rfl) hK (hD.sub [9] (by decide) rfl) hN⟩ rfl rfl hl.1 rfl (lv_room (Nat.le_of_ble_eq_true rfl)) dX4_howFar_33 ⟨Nat.zero_le _, Nat.zero_le _⟩) hS (fun q _ h => hFc q h) hFc (fun rz u t H locs ht hvm hw hB hz1 hk1 hS => ?_)
      obtain ⟨hP, hD⟩ := jn (wr := [(ax, .inr (4, [.ref axr, .ref axt, .ref axm, .ref axb, .ref axe, .int vxk])), (axr, .inr (2, [.ref axrd, .int vxrs])), (axrd, .inl (cy, 8, .inl fxrd)), (axm, .inr (0, [.ref axmn, .ref axmg, .ref axmc])), (axmn, .inr (2, [.ref axmnd, .int vxmns])), (axmnd, .inl (cy, 8, .inl fxmnd)), (axmg, .inr (2, [.ref axmgd, .int vxmgs])), (axmgd, .inl (cy, 8, .inl fxmgd)), (axmc, .inl (cy, 36, .inl fxmc)), (axe, .inr (1, [.ref axej])), (axej, .inl (cy, 6, .inl fxej))]) (w1 := [(axb, .inr (3, [.int vxbb]))]) (ws' := [(ax, .inr (4, [.ref axr, .ref axt, .ref axm, .ref axb, .ref axe, .int vxk])), (axr, .inr (2, [.ref axrd, .int vxrs])), (axrd, .inl (cy, 8, .inl fxrd)), (axm, .inr (0, [.ref axmn, .ref axmg, .ref axmc])), (axmn, .inr (2, [.ref axmnd, .int vxmns])), (axmnd, .inl (cy, 8, .inl fxmnd)), (axmg, .inr (2, [.ref axmgd, .int vxmgs])), (axmgd, .inl (cy, 8, .inl fxmgd)), (axmc, .inl (cy, 36, .inl fxmc)), (axb, .inr (3, [.int vxbb])), (axe, .inr (1, [.ref axej])), (axej, .inl (cy, 6, .inl fxej))]) hP hD [9] [0, 1, 2, 3, 4, 5, 6, 7, 8, 10, 11] rfl rfl (by decide) (by decide) hk1 hFc hB ht [0, 1, 2, 3, 4, 5, 6, 7, 8, 11, 9, 10] rfl (by decide) rfl
      replace hw := hw.symm
      subst hw
      clear hFc hB hk1 hz1 hvm
      obtain ⟨r5, hr5, h⟩ := bd_some h
      have hFc := va_free (wc := [(axb, .inr (3, [.int vxbb]))]) hD hS hA [9] rfl
      refine va_calli (va_runV (As := [.int r4]) (rest := []) ⟨hx, hb, hml, hown, hts⟩ (c_X3_differing l dC dI cy axb H.size vxbb r4 r5 hr5) (cwV 1 hts gX4_howFar_X3_differing rfl rfl rfl (by decide +kernel) ⟨Nat.le_of_ble_eq_true rfl, Nat.le_of_ble_eq_true rfl⟩) ⟨PW_fb, va_recv hK hP (ci := 3) (q0 := 9) rfl rfl, PW_pre (hP.sub (ws' := [(axb, .inr (3, [.int vxbb]))]) [9] rfl) hK (hD.sub [9] (by decide) rfl) hN⟩ rfl rfl hl.1 rfl (lv_room (Nat.le_of_ble_eq_true rfl)) dX4_howFar_36 ⟨Nat.zero_le _, Nat.zero_le _⟩) hS (fun q _ h => hFc q h) hFc (fun rz u t H locs ht hvm hw hB hz1 hk1 hS => ?_)
      obtain ⟨hP, hD⟩ := jn (wr := [(ax, .inr (4, [.ref axr, .ref axt, .ref axm, .ref axb, .ref axe, .int vxk])), (axr, .inr (2, [.ref axrd, .int vxrs])), (axrd, .inl (cy, 8, .inl fxrd)), (axm, .inr (0, [.ref axmn, .ref axmg, .ref axmc])), (axmn, .inr (2, [.ref axmnd, .int vxmns])), (axmnd, .inl (cy, 8, .inl fxmnd)), (axmg, .inr (2, [.ref axmgd, .int vxmgs])), (axmgd, .inl (cy, 8, .inl fxmgd)), (axmc, .inl (cy, 36, .inl fxmc)), (axe, .inr (1, [.ref axej])), (axej, .inl (cy, 6, .inl fxej))]) (w1 := [(axb, .inr (3, [.int vxbb]))]) (ws' := [(ax, .inr (4, [.ref axr, .ref axt, .ref axm, .ref axb, .ref axe, .int vxk])), (axr, .inr (2, [.ref axrd, .int vxrs])), (axrd, .inl (cy, 8, .inl fxrd)), (axm, .inr (0, [.ref axmn, .ref axmg, .ref axmc])), (axmn, .inr (2, [.ref axmnd, .int vxmns])), (axmnd, .inl (cy, 8, .inl fxmnd)), (axmg, .inr (2, [.ref axmgd, .int vxmgs])), (axmgd, .inl (cy, 8, .inl fxmgd)), (axmc, .inl (cy, 36, .inl fxmc)), (axb, .inr (3, [.int vxbb])), (axe, .inr (1, [.ref axej])), (axej, .inl (cy, 6, .inl fxej))]) hP hD [9] [0, 1, 2, 3, 4, 5, 6, 7, 8, 10, 11] rfl rfl (by decide) (by decide) hk1 hFc hB ht [0, 1, 2, 3, 4, 5, 6, 7, 8, 11, 9, 10] rfl (by decide) rfl
      replace hw := hw.symm
      subst hw
      clear hFc hB hk1 hz1 hvm
      have h0 := Option.some.inj h
      subst h0
      exact W.iret hx hb hr (fun t ht hW => ⟨⟨_, (), rfl, rfl, QW_mk hP hK hD ht hW⟩, hS.F ht⟩) hS.2.2 dX4_howFar_39
  · rw [if_neg c8] at h
    refine lv_aload_n hx hb dX4_howFar_7 rfl (lv_at hl 0 rfl) ?_
    refine va_get (D := (dC, dI)) (ci := 4) (v := .ref axm) (C := RX4) (T := TX4) (N := 6) hx hb hts hin_X4 hown hK hP 0 rfl rfl 2 (by decide) (hf_22) (fun _ h9 => h9) rfl dX4_howFar_8 ?_
    refine lv_aload_n hx hb dX4_howFar_11 rfl (lv_at hl 0 rfl) ?_
    refine va_get (D := (dC, dI)) (ci := 4) (v := .ref axr) (C := RX4) (T := TX4) (N := 6) hx hb hts hin_X4 hown hK hP 0 rfl rfl 0 (by decide) (hf_10) (fun _ h9 => h9) rfl dX4_howFar_12 ?_
    refine lv_iload_n hx hb dX4_howFar_15 rfl (lv_at hl 1 rfl) ?_
    obtain ⟨r7, hr7, h⟩ := bd_some h
    have hFc := va_free (wc := [(axm, .inr (0, [.ref axmn, .ref axmg, .ref axmc])), (axmn, .inr (2, [.ref axmnd, .int vxmns])), (axmnd, .inl (cy, 8, .inl fxmnd)), (axmg, .inr (2, [.ref axmgd, .int vxmgs])), (axmgd, .inl (cy, 8, .inl fxmgd)), (axmc, .inl (cy, 36, .inl fxmc)), (axr, .inr (2, [.ref axrd, .int vxrs])), (axrd, .inl (cy, 8, .inl fxrd))]) hD hS hA [3, 4, 5, 6, 7, 8, 1, 2] rfl
    refine va_calli (va_runV (As := [.ref axr, .int p0]) (rest := []) ⟨hx, hb, hml, hown, hts⟩ (c_X0_seek l dC dI cy axm axmn axmg axmc axmnd axmgd axr axrd H.size vxmns fxmnd vxmgs fxmgd fxmc vxrs fxrd p0 r7 hr7) (cwV 2 hts gX4_howFar_X0_seek rfl rfl rfl (by decide +kernel) ⟨Nat.le_of_ble_eq_true rfl, Nat.le_of_ble_eq_true rfl⟩) ⟨PW_fb, va_recv hK hP (ci := 0) (q0 := 3) rfl rfl, PW_pre (hP.sub (ws' := [(axm, .inr (0, [.ref axmn, .ref axmg, .ref axmc])), (axmn, .inr (2, [.ref axmnd, .int vxmns])), (axmnd, .inl (cy, 8, .inl fxmnd)), (axmg, .inr (2, [.ref axmgd, .int vxmgs])), (axmgd, .inl (cy, 8, .inl fxmgd)), (axmc, .inl (cy, 36, .inl fxmc)), (axr, .inr (2, [.ref axrd, .int vxrs])), (axrd, .inl (cy, 8, .inl fxrd))]) [3, 4, 5, 6, 7, 8, 1, 2] rfl) hK (hD.sub [3, 4, 5, 6, 7, 8, 1, 2] (by decide) rfl) hN⟩ rfl rfl hl.1 rfl (lv_room (Nat.le_of_ble_eq_true rfl)) dX4_howFar_16 ⟨Nat.zero_le _, Nat.zero_le _⟩) hS (fun q _ h => hFc q h) hFc (fun rz u t H locs ht hvm hw hB hz1 hk1 hS => ?_)
    obtain ⟨hP, hD⟩ := jn (wr := [(ax, .inr (4, [.ref axr, .ref axt, .ref axm, .ref axb, .ref axe, .int vxk])), (axb, .inr (3, [.int vxbb])), (axe, .inr (1, [.ref axej])), (axej, .inl (cy, 6, .inl fxej))]) (w1 := [(axm, .inr (0, [.ref axmn, .ref axmg, .ref axmc])), (axmn, .inr (2, [.ref axmnd, .int r7.2.1])), (axmnd, .inl (cy, 8, .inl r7.2.2.1)), (axmg, .inr (2, [.ref axmgd, .int r7.2.2.2.1])), (axmgd, .inl (cy, 8, .inl r7.2.2.2.2.1)), (axmc, .inl (cy, 36, .inl r7.2.2.2.2.2)), (axr, .inr (2, [.ref axrd, .int vxrs])), (axrd, .inl (cy, 8, .inl fxrd))]) (ws' := [(ax, .inr (4, [.ref axr, .ref axt, .ref axm, .ref axb, .ref axe, .int vxk])), (axr, .inr (2, [.ref axrd, .int vxrs])), (axrd, .inl (cy, 8, .inl fxrd)), (axm, .inr (0, [.ref axmn, .ref axmg, .ref axmc])), (axmn, .inr (2, [.ref axmnd, .int r7.2.1])), (axmnd, .inl (cy, 8, .inl r7.2.2.1)), (axmg, .inr (2, [.ref axmgd, .int r7.2.2.2.1])), (axmgd, .inl (cy, 8, .inl r7.2.2.2.2.1)), (axmc, .inl (cy, 36, .inl r7.2.2.2.2.2)), (axb, .inr (3, [.int vxbb])), (axe, .inr (1, [.ref axej])), (axej, .inl (cy, 6, .inl fxej))]) hP hD [3, 4, 5, 6, 7, 8, 1, 2] [0, 9, 10, 11] rfl rfl (by decide) (by decide) hk1 hFc hB ht [0, 10, 11, 4, 5, 6, 7, 8, 9, 1, 2, 3] rfl (by decide) rfl
    replace hw := hw.symm
    subst hw
    clear hFc hB hk1 hz1 hvm
    have h0 := Option.some.inj h
    subst h0
    exact W.iret hx hb hr (fun t ht hW => ⟨⟨_, (), rfl, rfl, QW_mk hP hK hD ht hW⟩, hS.F ht⟩) hS.2.2 dX4_howFar_19

noncomputable def fX4_is (vxrs : Int32) (fxrd : Nat → Int32) (vxmns : Int32) (fxmnd : Nat → Int32) (vxmgs : Int32) (fxmgd : Nat → Int32) (fxmc : Nat → Int32) (vxbb : Int32) (fxej : Nat → Int32) (p0 : Int32) : Option (Int32 × Int32 × (Nat → Int32) × Int32 × (Nat → Int32) × (Nat → Int32)) := bd (fX4_isSubject p0) fun r1 => if r1 = 0 then (some ((-2 : Int32), vxmns, fxmnd, vxmgs, fxmgd, fxmc)) else (bd (fX4_howFar vxrs fxrd vxmns fxmnd vxmgs fxmgd fxmc vxbb fxej p0) fun r2 => if r2.1 = 0 then (some ((1 : Int32), r2.2.1, r2.2.2.1, r2.2.2.2.1, r2.2.2.2.2.1, r2.2.2.2.2.2)) else (some ((0 : Int32), r2.2.1, r2.2.2.1, r2.2.2.2.1, r2.2.2.2.2.1, r2.2.2.2.2.2)))
set_option maxHeartbeats 4000000 in
set_option maxRecDepth 100000 in
theorem c_X4_is (l : Launch) (dC : Nat → ClassId) (dI : Nat → Nat → Nat) (cy : ClassId) (ax axr axt axm axb axe axrd axmn axmg axmc axmnd axmgd axej : Nat) (sz : Nat) (vxk : Int32) (vxrs : Int32) (fxrd : Nat → Int32) (vxmns : Int32) (fxmnd : Nat → Int32) (vxmgs : Int32) (fxmgd : Nat → Int32) (fxmc : Nat → Int32) (vxbb : Int32) (fxej : Nat → Int32) (p0 : Int32) (res : Int32 × Int32 × (Nat → Int32) × Int32 × (Nat → Int32) × (Nat → Int32)) (h : fX4_is vxrs fxrd vxmns fxmnd vxmgs fxmgd fxmc vxbb fxej p0 = some res) : Met l yX4_is wsX4_is ({ frames := 5, cells := 0, slots := 0, locals := 118 }) (va_Pc [.ref ax, .int p0] (PW (dC, dI) cy sz [(ax, .inr (4, [.ref axr, .ref axt, .ref axm, .ref axb, .ref axe, .int vxk])), (axr, .inr (2, [.ref axrd, .int vxrs])), (axrd, .inl (cy, 8, .inl fxrd)), (axm, .inr (0, [.ref axmn, .ref axmg, .ref axmc])), (axmn, .inr (2, [.ref axmnd, .int vxmns])), (axmnd, .inl (cy, 8, .inl fxmnd)), (axmg, .inr (2, [.ref axmgd, .int vxmgs])), (axmgd, .inl (cy, 8, .inl fxmgd)), (axmc, .inl (cy, 36, .inl fxmc)), (axb, .inr (3, [.int vxbb])), (axe, .inr (1, [.ref axej])), (axej, .inl (cy, 6, .inl fxej))])) (va_Qi (fun (r : Int32) (_ : Unit) => r = res.1) (QW (dC, dI) cy (va_A [(ax, .inr (4, [.ref axr, .ref axt, .ref axm, .ref axb, .ref axe, .int vxk])), (axr, .inr (2, [.ref axrd, .int vxrs])), (axrd, .inl (cy, 8, .inl fxrd)), (axm, .inr (0, [.ref axmn, .ref axmg, .ref axmc])), (axmn, .inr (2, [.ref axmnd, .int vxmns])), (axmnd, .inl (cy, 8, .inl fxmnd)), (axmg, .inr (2, [.ref axmgd, .int vxmgs])), (axmgd, .inl (cy, 8, .inl fxmgd)), (axmc, .inl (cy, 36, .inl fxmc)), (axb, .inr (3, [.int vxbb])), (axe, .inr (1, [.ref axej])), (axej, .inl (cy, 6, .inl fxej))] sz) [(ax, .inr (4, [.ref axr, .ref axt, .ref axm, .ref axb, .ref axe, .int vxk])), (axr, .inr (2, [.ref axrd, .int vxrs])), (axrd, .inl (cy, 8, .inl fxrd)), (axm, .inr (0, [.ref axmn, .ref axmg, .ref axmc])), (axmn, .inr (2, [.ref axmnd, .int res.2.1])), (axmnd, .inl (cy, 8, .inl res.2.2.1)), (axmg, .inr (2, [.ref axmgd, .int res.2.2.2.1])), (axmgd, .inl (cy, 8, .inl res.2.2.2.2.1)), (axmc, .inl (cy, 36, .inl res.2.2.2.2.2)), (axb, .inr (3, [.int vxbb])), (axe, .inr (1, [.ref axej])), (axej, .inl (cy, 6, .inl fxej))]) (va_A [(ax, .inr (4, [.ref axr, .ref axt, .ref axm, .ref axb, .ref axe, .int vxk])), (axr, .inr (2, [.ref axrd, .int vxrs])), (axrd, .inl (cy, 8, .inl fxrd)), (axm, .inr (0, [.ref axmn, .ref axmg, .ref axmc])), (axmn, .inr (2, [.ref axmnd, .int vxmns])), (axmnd, .inl (cy, 8, .inl fxmnd)), (axmg, .inr (2, [.ref axmgd, .int vxmgs])), (axmgd, .inl (cy, 8, .inl fxmgd)), (axmc, .inl (cy, 36, .inl fxmc)), (axb, .inr (3, [.int vxbb])), (axe, .inr (1, [.ref axej])), (axej, .inl (cy, 6, .inl fxej))] sz)) 0 0 (va_A [(ax, .inr (4, [.ref axr, .ref axt, .ref axm, .ref axb, .ref axe, .int vxk])), (axr, .inr (2, [.ref axrd, .int vxrs])), (axrd, .inl (cy, 8, .inl fxrd)), (axm, .inr (0, [.ref axmn, .ref axmg, .ref axmc])), (axmn, .inr (2, [.ref axmnd, .int vxmns])), (axmnd, .inl (cy, 8, .inl fxmnd)), (axmg, .inr (2, [.ref axmgd, .int vxmgs])), (axmgd, .inl (cy, 8, .inl fxmgd)), (axmc, .inl (cy, 36, .inl fxmc)), (axb, .inr (3, [.int vxbb])), (axe, .inr (1, [.ref axej])), (axej, .inl (cy, 6, .inl fxej))] sz) := by
  refine Met.ofW (cc := cX4_is) (maxL := 2) (ret := (some .int)) (by decide) rfl ?_
  intro p e s m args below meth c s₁ B hml hv
  obtain ⟨rfl, hsz, hP, hK, hD0, hN⟩ := hv
  have hx := B.exec
  have hb := B.bytes
  have hr := B.returns
  have hts := atoms_spec (ws := wsX4_is) B.pre
  have hown : s.vm.findClass RX4 = some m.cls := findClass_of_methodNamed B.named
  have hlocks := B.notSynchronized
  subst hsz
  have hD := hD0.self (sz := s.heap.size)
  clear hD0
  generalize hAe : va_A [(ax, .inr (4, [.ref axr, .ref axt, .ref axm, .ref axb, .ref axe, .int vxk])), (axr, .inr (2, [.ref axrd, .int vxrs])), (axrd, .inl (cy, 8, .inl fxrd)), (axm, .inr (0, [.ref axmn, .ref axmg, .ref axmc])), (axmn, .inr (2, [.ref axmnd, .int vxmns])), (axmnd, .inl (cy, 8, .inl fxmnd)), (axmg, .inr (2, [.ref axmgd, .int vxmgs])), (axmgd, .inl (cy, 8, .inl fxmgd)), (axmc, .inl (cy, 36, .inl fxmc)), (axb, .inr (3, [.int vxbb])), (axe, .inr (1, [.ref axej])), (axej, .inl (cy, 6, .inl fxej))] s.heap.size = A at hD ⊢
  have hA : ∀ q : Nat, s.heap.size ≤ q → A q := fun q h => by rw [← hAe]; exact Or.inr h
  have hS : va_S A s.heap s.heap [] := va_S.rf
  have hl := lv_entry ([.ref ax, .int p0]) (n := 2) (Nat.le_of_ble_eq_true rfl)
  rw [lg_entry_eq]
  generalize (lg_sl ([.ref ax, .int p0]) ++ List.replicate (2 - (lg_sl ([.ref ax, .int p0])).length) Slot.unset).toArray = ls at hl ⊢
  replace hl : lv_has ls 2 [(0, .ref ax), (1, .int p0)] := hl
  replace hP : va_P (dC, dI) vwCl [(ax, .inr (4, [.ref axr, .ref axt, .ref axm, .ref axb, .ref axe, .int vxk])), (axr, .inr (2, [.ref axrd, .int vxrs])), (axrd, .inl (cy, 8, .inl fxrd)), (axm, .inr (0, [.ref axmn, .ref axmg, .ref axmc])), (axmn, .inr (2, [.ref axmnd, .int vxmns])), (axmnd, .inl (cy, 8, .inl fxmnd)), (axmg, .inr (2, [.ref axmgd, .int vxmgs])), (axmgd, .inl (cy, 8, .inl fxmgd)), (axmc, .inl (cy, 36, .inl fxmc)), (axb, .inr (3, [.int vxbb])), (axe, .inr (1, [.ref axej])), (axej, .inl (cy, 6, .inl fxej))] s.heap := hP
  obtain ⟨locs, hlocs⟩ : ∃ lc : List Loc, lc = [] := ⟨_, rfl⟩
  rw [← hlocs] at hS ⊢
  obtain ⟨H, hH⟩ : ∃ H : Heap, H = s.heap := ⟨_, rfl⟩
  have hP2 := hP; rw [← hH] at hP2
  have hS2 : va_S A s.heap H locs := by rw [hH]; exact hS
  suffices hgo : W p l e (headSpec wsX4_is ({ frames := 5, cells := 0, slots := 0, locals := 118 })).room s m (([.ref ax, .int p0] : List Value).toArray) below meth c H locs 0 0 (MQ below (va_Qi (fun (r : Int32) (_ : Unit) => r = res.1) (QW (dC, dI) cy A [(ax, .inr (4, [.ref axr, .ref axt, .ref axm, .ref axb, .ref axe, .int vxk])), (axr, .inr (2, [.ref axrd, .int vxrs])), (axrd, .inl (cy, 8, .inl fxrd)), (axm, .inr (0, [.ref axmn, .ref axmg, .ref axmc])), (axmn, .inr (2, [.ref axmnd, .int res.2.1])), (axmnd, .inl (cy, 8, .inl res.2.2.1)), (axmg, .inr (2, [.ref axmgd, .int res.2.2.2.1])), (axmgd, .inl (cy, 8, .inl res.2.2.2.2.1)), (axmc, .inl (cy, 36, .inl res.2.2.2.2.2)), (axb, .inr (3, [.int vxbb])), (axe, .inr (1, [.ref axej])), (axej, .inl (cy, 6, .inl fxej))]) A) (([.ref ax, .int p0] : List Value).toArray) s 0 0 A) (F0 m 0 ls []) by rw [hH] at hgo; exact hgo
  replace hP := hP2
  replace hS := hS2
  clear hP2 hS2
  unfold fX4_is at h
  refine lv_iload_n hx hb dX4_is_0 rfl (lv_at hl 1 rfl) ?_
  obtain ⟨r1, hr1, h⟩ := bd_some h
  have hFc := va_free (wc := []) hD hS hA [] rfl
  refine va_calli (va_runS (As := [.int p0]) (rest := []) ⟨hx, hb, hml, hown, hts⟩ (c_X4_isSubject l dC dI cy  H.size  p0 r1 hr1) (va_cwS 1 hts gX4_is_X4_isSubject rfl rfl rfl (by decide +kernel) ⟨Nat.le_of_ble_eq_true rfl, Nat.le_of_ble_eq_true rfl⟩) ⟨PW_fb, PW_pre (hP.sub (ws' := []) [] rfl) hK (hD.sub [] (by decide) rfl) hN⟩ rfl rfl hl.1 rfl (lv_room (Nat.le_of_ble_eq_true rfl)) dX4_is_1 ⟨Nat.zero_le _, Nat.zero_le _⟩) hS (fun q _ h => hFc q h) hFc (fun rz u t H locs ht hvm hw hB hz1 hk1 hS => ?_)
  obtain ⟨hP, hD⟩ := jn (wr := [(ax, .inr (4, [.ref axr, .ref axt, .ref axm, .ref axb, .ref axe, .int vxk])), (axr, .inr (2, [.ref axrd, .int vxrs])), (axrd, .inl (cy, 8, .inl fxrd)), (axm, .inr (0, [.ref axmn, .ref axmg, .ref axmc])), (axmn, .inr (2, [.ref axmnd, .int vxmns])), (axmnd, .inl (cy, 8, .inl fxmnd)), (axmg, .inr (2, [.ref axmgd, .int vxmgs])), (axmgd, .inl (cy, 8, .inl fxmgd)), (axmc, .inl (cy, 36, .inl fxmc)), (axb, .inr (3, [.int vxbb])), (axe, .inr (1, [.ref axej])), (axej, .inl (cy, 6, .inl fxej))]) (w1 := []) (ws' := [(ax, .inr (4, [.ref axr, .ref axt, .ref axm, .ref axb, .ref axe, .int vxk])), (axr, .inr (2, [.ref axrd, .int vxrs])), (axrd, .inl (cy, 8, .inl fxrd)), (axm, .inr (0, [.ref axmn, .ref axmg, .ref axmc])), (axmn, .inr (2, [.ref axmnd, .int vxmns])), (axmnd, .inl (cy, 8, .inl fxmnd)), (axmg, .inr (2, [.ref axmgd, .int vxmgs])), (axmgd, .inl (cy, 8, .inl fxmgd)), (axmc, .inl (cy, 36, .inl fxmc)), (axb, .inr (3, [.int vxbb])), (axe, .inr (1, [.ref axej])), (axej, .inl (cy, 6, .inl fxej))]) hP hD [] [0, 1, 2, 3, 4, 5, 6, 7, 8, 9, 10, 11] rfl rfl (by decide) (by decide) hk1 hFc hB ht [0, 1, 2, 3, 4, 5, 6, 7, 8, 9, 10, 11] rfl (by decide) rfl
  obtain ⟨hw, br1⟩ := hw
  replace hw := hw.symm
  subst hw
  clear hFc hB hk1 hz1 hvm
  refine lv_if_ne (tgt := 10) hx hb dX4_is_4 (by decide) (fun c4 => ?_) (fun c4 => ?_)
  · rw [if_neg c4] at h
    refine lv_aload_n hx hb dX4_is_10 rfl (lv_at hl 0 rfl) ?_
    refine lv_iload_n hx hb dX4_is_11 rfl (lv_at hl 1 rfl) ?_
    obtain ⟨r2, hr2, h⟩ := bd_some h
    have hFc := va_free (wc := [(ax, .inr (4, [.ref axr, .ref axt, .ref axm, .ref axb, .ref axe, .int vxk])), (axr, .inr (2, [.ref axrd, .int vxrs])), (axrd, .inl (cy, 8, .inl fxrd)), (axm, .inr (0, [.ref axmn, .ref axmg, .ref axmc])), (axmn, .inr (2, [.ref axmnd, .int vxmns])), (axmnd, .inl (cy, 8, .inl fxmnd)), (axmg, .inr (2, [.ref axmgd, .int vxmgs])), (axmgd, .inl (cy, 8, .inl fxmgd)), (axmc, .inl (cy, 36, .inl fxmc)), (axb, .inr (3, [.int vxbb])), (axe, .inr (1, [.ref axej])), (axej, .inl (cy, 6, .inl fxej))]) hD hS hA [0, 1, 2, 3, 4, 5, 6, 7, 8, 9, 10, 11] rfl
    refine va_calli (va_runV (As := [.int p0]) (rest := []) ⟨hx, hb, hml, hown, hts⟩ (c_X4_howFar l dC dI cy ax axr axt axm axb axe axrd axmn axmg axmc axmnd axmgd axej H.size vxk vxrs fxrd vxmns fxmnd vxmgs fxmgd fxmc vxbb fxej p0 r2 hr2) (cwV 1 hts gX4_is_X4_howFar rfl rfl rfl (by decide +kernel) ⟨Nat.le_of_ble_eq_true rfl, Nat.le_of_ble_eq_true rfl⟩) ⟨PW_fb, va_recv hK hP (ci := 4) (q0 := 0) rfl rfl, PW_pre (hP.sub (ws' := [(ax, .inr (4, [.ref axr, .ref axt, .ref axm, .ref axb, .ref axe, .int vxk])), (axr, .inr (2, [.ref axrd, .int vxrs])), (axrd, .inl (cy, 8, .inl fxrd)), (axm, .inr (0, [.ref axmn, .ref axmg, .ref axmc])), (axmn, .inr (2, [.ref axmnd, .int vxmns])), (axmnd, .inl (cy, 8, .inl fxmnd)), (axmg, .inr (2, [.ref axmgd, .int vxmgs])), (axmgd, .inl (cy, 8, .inl fxmgd)), (axmc, .inl (cy, 36, .inl fxmc)), (axb, .inr (3, [.int vxbb])), (axe, .inr (1, [.ref axej])), (axej, .inl (cy, 6, .inl fxej))]) [0, 1, 2, 3, 4, 5, 6, 7, 8, 9, 10, 11] rfl) hK (hD.sub [0, 1, 2, 3, 4, 5, 6, 7, 8, 9, 10, 11] (by decide) rfl) hN⟩ rfl rfl hl.1 rfl (lv_room (Nat.le_of_ble_eq_true rfl)) dX4_is_12 ⟨Nat.zero_le _, Nat.zero_le _⟩) hS (fun q _ h => hFc q h) hFc (fun rz u t H locs ht hvm hw hB hz1 hk1 hS => ?_)
    obtain ⟨hP, hD⟩ := jn (wr := []) (w1 := [(ax, .inr (4, [.ref axr, .ref axt, .ref axm, .ref axb, .ref axe, .int vxk])), (axr, .inr (2, [.ref axrd, .int vxrs])), (axrd, .inl (cy, 8, .inl fxrd)), (axm, .inr (0, [.ref axmn, .ref axmg, .ref axmc])), (axmn, .inr (2, [.ref axmnd, .int r2.2.1])), (axmnd, .inl (cy, 8, .inl r2.2.2.1)), (axmg, .inr (2, [.ref axmgd, .int r2.2.2.2.1])), (axmgd, .inl (cy, 8, .inl r2.2.2.2.2.1)), (axmc, .inl (cy, 36, .inl r2.2.2.2.2.2)), (axb, .inr (3, [.int vxbb])), (axe, .inr (1, [.ref axej])), (axej, .inl (cy, 6, .inl fxej))]) (ws' := [(ax, .inr (4, [.ref axr, .ref axt, .ref axm, .ref axb, .ref axe, .int vxk])), (axr, .inr (2, [.ref axrd, .int vxrs])), (axrd, .inl (cy, 8, .inl fxrd)), (axm, .inr (0, [.ref axmn, .ref axmg, .ref axmc])), (axmn, .inr (2, [.ref axmnd, .int r2.2.1])), (axmnd, .inl (cy, 8, .inl r2.2.2.1)), (axmg, .inr (2, [.ref axmgd, .int r2.2.2.2.1])), (axmgd, .inl (cy, 8, .inl r2.2.2.2.2.1)), (axmc, .inl (cy, 36, .inl r2.2.2.2.2.2)), (axb, .inr (3, [.int vxbb])), (axe, .inr (1, [.ref axej])), (axej, .inl (cy, 6, .inl fxej))]) hP hD [0, 1, 2, 3, 4, 5, 6, 7, 8, 9, 10, 11] [] rfl rfl (by decide) (by decide) hk1 hFc hB ht [0, 1, 2, 3, 4, 5, 6, 7, 8, 9, 10, 11] rfl (by decide) rfl
    replace hw := hw.symm
    subst hw
    clear hFc hB hk1 hz1 hvm
    refine lv_if_ne (tgt := 22) hx hb dX4_is_15 (by decide) (fun c3 => ?_) (fun c3 => ?_)
    · rw [if_neg c3] at h
      refine lv_iconst (v := (0 : Int32)) hx hb dX4_is_22 (by decide) ?_
      have h0 := Option.some.inj h
      subst h0
      exact W.iret hx hb hr (fun t ht hW => ⟨⟨_, (), rfl, rfl, QW_mk hP hK hD ht hW⟩, hS.F ht⟩) hS.2.2 dX4_is_23
    · rw [if_pos c3] at h
      refine lv_iconst (v := (1 : Int32)) hx hb dX4_is_18 (by decide) ?_
      refine lv_goto (tgt := 23) hx hb dX4_is_19 (by decide) ?_
      have h0 := Option.some.inj h
      subst h0
      exact W.iret hx hb hr (fun t ht hW => ⟨⟨_, (), rfl, rfl, QW_mk hP hK hD ht hW⟩, hS.F ht⟩) hS.2.2 dX4_is_23
  · rw [if_pos c4] at h
    refine lv_bipush (v := (-2 : Int32)) hx hb dX4_is_7 (by decide) ?_
    have h0 := Option.some.inj h
    subst h0
    exact W.iret hx hb hr (fun t ht hW => ⟨⟨_, (), rfl, rfl, QW_mk hP hK hD ht hW⟩, hS.F ht⟩) hS.2.2 dX4_is_9

noncomputable def fX4_distance (vxrs : Int32) (fxrd : Nat → Int32) (vxmns : Int32) (fxmnd : Nat → Int32) (vxmgs : Int32) (fxmgd : Nat → Int32) (fxmc : Nat → Int32) (vxbb : Int32) (fxej : Nat → Int32) (p0 : Int32) : Option (Int32 × Int32 × (Nat → Int32) × Int32 × (Nat → Int32) × (Nat → Int32)) := bd (fX4_isSubject p0) fun r1 => if r1 = 0 then (some ((-2 : Int32), vxmns, fxmnd, vxmgs, fxmgd, fxmc)) else (bd (fX4_howFar vxrs fxrd vxmns fxmnd vxmgs fxmgd fxmc vxbb fxej p0) fun r2 => some (r2.1, r2.2.1, r2.2.2.1, r2.2.2.2.1, r2.2.2.2.2.1, r2.2.2.2.2.2))
set_option maxHeartbeats 4000000 in
set_option maxRecDepth 100000 in
theorem c_X4_distance (l : Launch) (dC : Nat → ClassId) (dI : Nat → Nat → Nat) (cy : ClassId) (ax axr axt axm axb axe axrd axmn axmg axmc axmnd axmgd axej : Nat) (sz : Nat) (vxk : Int32) (vxrs : Int32) (fxrd : Nat → Int32) (vxmns : Int32) (fxmnd : Nat → Int32) (vxmgs : Int32) (fxmgd : Nat → Int32) (fxmc : Nat → Int32) (vxbb : Int32) (fxej : Nat → Int32) (p0 : Int32) (res : Int32 × Int32 × (Nat → Int32) × Int32 × (Nat → Int32) × (Nat → Int32)) (h : fX4_distance vxrs fxrd vxmns fxmnd vxmgs fxmgd fxmc vxbb fxej p0 = some res) : Met l yX4_distance wsX4_distance ({ frames := 5, cells := 0, slots := 0, locals := 118 }) (va_Pc [.ref ax, .int p0] (PW (dC, dI) cy sz [(ax, .inr (4, [.ref axr, .ref axt, .ref axm, .ref axb, .ref axe, .int vxk])), (axr, .inr (2, [.ref axrd, .int vxrs])), (axrd, .inl (cy, 8, .inl fxrd)), (axm, .inr (0, [.ref axmn, .ref axmg, .ref axmc])), (axmn, .inr (2, [.ref axmnd, .int vxmns])), (axmnd, .inl (cy, 8, .inl fxmnd)), (axmg, .inr (2, [.ref axmgd, .int vxmgs])), (axmgd, .inl (cy, 8, .inl fxmgd)), (axmc, .inl (cy, 36, .inl fxmc)), (axb, .inr (3, [.int vxbb])), (axe, .inr (1, [.ref axej])), (axej, .inl (cy, 6, .inl fxej))])) (va_Qi (fun (r : Int32) (_ : Unit) => r = res.1) (QW (dC, dI) cy (va_A [(ax, .inr (4, [.ref axr, .ref axt, .ref axm, .ref axb, .ref axe, .int vxk])), (axr, .inr (2, [.ref axrd, .int vxrs])), (axrd, .inl (cy, 8, .inl fxrd)), (axm, .inr (0, [.ref axmn, .ref axmg, .ref axmc])), (axmn, .inr (2, [.ref axmnd, .int vxmns])), (axmnd, .inl (cy, 8, .inl fxmnd)), (axmg, .inr (2, [.ref axmgd, .int vxmgs])), (axmgd, .inl (cy, 8, .inl fxmgd)), (axmc, .inl (cy, 36, .inl fxmc)), (axb, .inr (3, [.int vxbb])), (axe, .inr (1, [.ref axej])), (axej, .inl (cy, 6, .inl fxej))] sz) [(ax, .inr (4, [.ref axr, .ref axt, .ref axm, .ref axb, .ref axe, .int vxk])), (axr, .inr (2, [.ref axrd, .int vxrs])), (axrd, .inl (cy, 8, .inl fxrd)), (axm, .inr (0, [.ref axmn, .ref axmg, .ref axmc])), (axmn, .inr (2, [.ref axmnd, .int res.2.1])), (axmnd, .inl (cy, 8, .inl res.2.2.1)), (axmg, .inr (2, [.ref axmgd, .int res.2.2.2.1])), (axmgd, .inl (cy, 8, .inl res.2.2.2.2.1)), (axmc, .inl (cy, 36, .inl res.2.2.2.2.2)), (axb, .inr (3, [.int vxbb])), (axe, .inr (1, [.ref axej])), (axej, .inl (cy, 6, .inl fxej))]) (va_A [(ax, .inr (4, [.ref axr, .ref axt, .ref axm, .ref axb, .ref axe, .int vxk])), (axr, .inr (2, [.ref axrd, .int vxrs])), (axrd, .inl (cy, 8, .inl fxrd)), (axm, .inr (0, [.ref axmn, .ref axmg, .ref axmc])), (axmn, .inr (2, [.ref axmnd, .int vxmns])), (axmnd, .inl (cy, 8, .inl fxmnd)), (axmg, .inr (2, [.ref axmgd, .int vxmgs])), (axmgd, .inl (cy, 8, .inl fxmgd)), (axmc, .inl (cy, 36, .inl fxmc)), (axb, .inr (3, [.int vxbb])), (axe, .inr (1, [.ref axej])), (axej, .inl (cy, 6, .inl fxej))] sz)) 0 0 (va_A [(ax, .inr (4, [.ref axr, .ref axt, .ref axm, .ref axb, .ref axe, .int vxk])), (axr, .inr (2, [.ref axrd, .int vxrs])), (axrd, .inl (cy, 8, .inl fxrd)), (axm, .inr (0, [.ref axmn, .ref axmg, .ref axmc])), (axmn, .inr (2, [.ref axmnd, .int vxmns])), (axmnd, .inl (cy, 8, .inl fxmnd)), (axmg, .inr (2, [.ref axmgd, .int vxmgs])), (axmgd, .inl (cy, 8, .inl fxmgd)), (axmc, .inl (cy, 36, .inl fxmc)), (axb, .inr (3, [.int vxbb])), (axe, .inr (1, [.ref axej])), (axej, .inl (cy, 6, .inl fxej))] sz) := by
  refine Met.ofW (cc := cX4_distance) (maxL := 2) (ret := (some .int)) (by decide) rfl ?_
  intro p e s m args below meth c s₁ B hml hv
  obtain ⟨rfl, hsz, hP, hK, hD0, hN⟩ := hv
  have hx := B.exec
  have hb := B.bytes
  have hr := B.returns
  have hts := atoms_spec (ws := wsX4_distance) B.pre
  have hown : s.vm.findClass RX4 = some m.cls := findClass_of_methodNamed B.named
  have hlocks := B.notSynchronized
  subst hsz
  have hD := hD0.self (sz := s.heap.size)
  clear hD0
  generalize hAe : va_A [(ax, .inr (4, [.ref axr, .ref axt, .ref axm, .ref axb, .ref axe, .int vxk])), (axr, .inr (2, [.ref axrd, .int vxrs])), (axrd, .inl (cy, 8, .inl fxrd)), (axm, .inr (0, [.ref axmn, .ref axmg, .ref axmc])), (axmn, .inr (2, [.ref axmnd, .int vxmns])), (axmnd, .inl (cy, 8, .inl fxmnd)), (axmg, .inr (2, [.ref axmgd, .int vxmgs])), (axmgd, .inl (cy, 8, .inl fxmgd)), (axmc, .inl (cy, 36, .inl fxmc)), (axb, .inr (3, [.int vxbb])), (axe, .inr (1, [.ref axej])), (axej, .inl (cy, 6, .inl fxej))] s.heap.size = A at hD ⊢
  have hA : ∀ q : Nat, s.heap.size ≤ q → A q := fun q h => by rw [← hAe]; exact Or.inr h
  have hS : va_S A s.heap s.heap [] := va_S.rf
  have hl := lv_entry ([.ref ax, .int p0]) (n := 2) (Nat.le_of_ble_eq_true rfl)
  rw [lg_entry_eq]
  generalize (lg_sl ([.ref ax, .int p0]) ++ List.replicate (2 - (lg_sl ([.ref ax, .int p0])).length) Slot.unset).toArray = ls at hl ⊢
  replace hl : lv_has ls 2 [(0, .ref ax), (1, .int p0)] := hl
  replace hP : va_P (dC, dI) vwCl [(ax, .inr (4, [.ref axr, .ref axt, .ref axm, .ref axb, .ref axe, .int vxk])), (axr, .inr (2, [.ref axrd, .int vxrs])), (axrd, .inl (cy, 8, .inl fxrd)), (axm, .inr (0, [.ref axmn, .ref axmg, .ref axmc])), (axmn, .inr (2, [.ref axmnd, .int vxmns])), (axmnd, .inl (cy, 8, .inl fxmnd)), (axmg, .inr (2, [.ref axmgd, .int vxmgs])), (axmgd, .inl (cy, 8, .inl fxmgd)), (axmc, .inl (cy, 36, .inl fxmc)), (axb, .inr (3, [.int vxbb])), (axe, .inr (1, [.ref axej])), (axej, .inl (cy, 6, .inl fxej))] s.heap := hP
  obtain ⟨locs, hlocs⟩ : ∃ lc : List Loc, lc = [] := ⟨_, rfl⟩
  rw [← hlocs] at hS ⊢
  obtain ⟨H, hH⟩ : ∃ H : Heap, H = s.heap := ⟨_, rfl⟩
  have hP2 := hP; rw [← hH] at hP2
  have hS2 : va_S A s.heap H locs := by rw [hH]; exact hS
  suffices hgo : W p l e (headSpec wsX4_distance ({ frames := 5, cells := 0, slots := 0, locals := 118 })).room s m (([.ref ax, .int p0] : List Value).toArray) below meth c H locs 0 0 (MQ below (va_Qi (fun (r : Int32) (_ : Unit) => r = res.1) (QW (dC, dI) cy A [(ax, .inr (4, [.ref axr, .ref axt, .ref axm, .ref axb, .ref axe, .int vxk])), (axr, .inr (2, [.ref axrd, .int vxrs])), (axrd, .inl (cy, 8, .inl fxrd)), (axm, .inr (0, [.ref axmn, .ref axmg, .ref axmc])), (axmn, .inr (2, [.ref axmnd, .int res.2.1])), (axmnd, .inl (cy, 8, .inl res.2.2.1)), (axmg, .inr (2, [.ref axmgd, .int res.2.2.2.1])), (axmgd, .inl (cy, 8, .inl res.2.2.2.2.1)), (axmc, .inl (cy, 36, .inl res.2.2.2.2.2)), (axb, .inr (3, [.int vxbb])), (axe, .inr (1, [.ref axej])), (axej, .inl (cy, 6, .inl fxej))]) A) (([.ref ax, .int p0] : List Value).toArray) s 0 0 A) (F0 m 0 ls []) by rw [hH] at hgo; exact hgo
  replace hP := hP2
  replace hS := hS2
  clear hP2 hS2
  unfold fX4_distance at h
  refine lv_iload_n hx hb dX4_distance_0 rfl (lv_at hl 1 rfl) ?_
  obtain ⟨r1, hr1, h⟩ := bd_some h
  have hFc := va_free (wc := []) hD hS hA [] rfl
  refine va_calli (va_runS (As := [.int p0]) (rest := []) ⟨hx, hb, hml, hown, hts⟩ (c_X4_isSubject l dC dI cy  H.size  p0 r1 hr1) (va_cwS 1 hts gX4_distance_X4_isSubject rfl rfl rfl (by decide +kernel) ⟨Nat.le_of_ble_eq_true rfl, Nat.le_of_ble_eq_true rfl⟩) ⟨PW_fb, PW_pre (hP.sub (ws' := []) [] rfl) hK (hD.sub [] (by decide) rfl) hN⟩ rfl rfl hl.1 rfl (lv_room (Nat.le_of_ble_eq_true rfl)) dX4_distance_1 ⟨Nat.zero_le _, Nat.zero_le _⟩) hS (fun q _ h => hFc q h) hFc (fun rz u t H locs ht hvm hw hB hz1 hk1 hS => ?_)
  obtain ⟨hP, hD⟩ := jn (wr := [(ax, .inr (4, [.ref axr, .ref axt, .ref axm, .ref axb, .ref axe, .int vxk])), (axr, .inr (2, [.ref axrd, .int vxrs])), (axrd, .inl (cy, 8, .inl fxrd)), (axm, .inr (0, [.ref axmn, .ref axmg, .ref axmc])), (axmn, .inr (2, [.ref axmnd, .int vxmns])), (axmnd, .inl (cy, 8, .inl fxmnd)), (axmg, .inr (2, [.ref axmgd, .int vxmgs])), (axmgd, .inl (cy, 8, .inl fxmgd)), (axmc, .inl (cy, 36, .inl fxmc)), (axb, .inr (3, [.int vxbb])), (axe, .inr (1, [.ref axej])), (axej, .inl (cy, 6, .inl fxej))]) (w1 := []) (ws' := [(ax, .inr (4, [.ref axr, .ref axt, .ref axm, .ref axb, .ref axe, .int vxk])), (axr, .inr (2, [.ref axrd, .int vxrs])), (axrd, .inl (cy, 8, .inl fxrd)), (axm, .inr (0, [.ref axmn, .ref axmg, .ref axmc])), (axmn, .inr (2, [.ref axmnd, .int vxmns])), (axmnd, .inl (cy, 8, .inl fxmnd)), (axmg, .inr (2, [.ref axmgd, .int vxmgs])), (axmgd, .inl (cy, 8, .inl fxmgd)), (axmc, .inl (cy, 36, .inl fxmc)), (axb, .inr (3, [.int vxbb])), (axe, .inr (1, [.ref axej])), (axej, .inl (cy, 6, .inl fxej))]) hP hD [] [0, 1, 2, 3, 4, 5, 6, 7, 8, 9, 10, 11] rfl rfl (by decide) (by decide) hk1 hFc hB ht [0, 1, 2, 3, 4, 5, 6, 7, 8, 9, 10, 11] rfl (by decide) rfl
  obtain ⟨hw, br1⟩ := hw
  replace hw := hw.symm
  subst hw
  clear hFc hB hk1 hz1 hvm
  refine lv_if_ne (tgt := 10) hx hb dX4_distance_4 (by decide) (fun c3 => ?_) (fun c3 => ?_)
  · rw [if_neg c3] at h
    refine lv_aload_n hx hb dX4_distance_10 rfl (lv_at hl 0 rfl) ?_
    refine lv_iload_n hx hb dX4_distance_11 rfl (lv_at hl 1 rfl) ?_
    obtain ⟨r2, hr2, h⟩ := bd_some h
    have hFc := va_free (wc := [(ax, .inr (4, [.ref axr, .ref axt, .ref axm, .ref axb, .ref axe, .int vxk])), (axr, .inr (2, [.ref axrd, .int vxrs])), (axrd, .inl (cy, 8, .inl fxrd)), (axm, .inr (0, [.ref axmn, .ref axmg, .ref axmc])), (axmn, .inr (2, [.ref axmnd, .int vxmns])), (axmnd, .inl (cy, 8, .inl fxmnd)), (axmg, .inr (2, [.ref axmgd, .int vxmgs])), (axmgd, .inl (cy, 8, .inl fxmgd)), (axmc, .inl (cy, 36, .inl fxmc)), (axb, .inr (3, [.int vxbb])), (axe, .inr (1, [.ref axej])), (axej, .inl (cy, 6, .inl fxej))]) hD hS hA [0, 1, 2, 3, 4, 5, 6, 7, 8, 9, 10, 11] rfl
    refine va_calli (va_runV (As := [.int p0]) (rest := []) ⟨hx, hb, hml, hown, hts⟩ (c_X4_howFar l dC dI cy ax axr axt axm axb axe axrd axmn axmg axmc axmnd axmgd axej H.size vxk vxrs fxrd vxmns fxmnd vxmgs fxmgd fxmc vxbb fxej p0 r2 hr2) (cwV 1 hts gX4_distance_X4_howFar rfl rfl rfl (by decide +kernel) ⟨Nat.le_of_ble_eq_true rfl, Nat.le_of_ble_eq_true rfl⟩) ⟨PW_fb, va_recv hK hP (ci := 4) (q0 := 0) rfl rfl, PW_pre (hP.sub (ws' := [(ax, .inr (4, [.ref axr, .ref axt, .ref axm, .ref axb, .ref axe, .int vxk])), (axr, .inr (2, [.ref axrd, .int vxrs])), (axrd, .inl (cy, 8, .inl fxrd)), (axm, .inr (0, [.ref axmn, .ref axmg, .ref axmc])), (axmn, .inr (2, [.ref axmnd, .int vxmns])), (axmnd, .inl (cy, 8, .inl fxmnd)), (axmg, .inr (2, [.ref axmgd, .int vxmgs])), (axmgd, .inl (cy, 8, .inl fxmgd)), (axmc, .inl (cy, 36, .inl fxmc)), (axb, .inr (3, [.int vxbb])), (axe, .inr (1, [.ref axej])), (axej, .inl (cy, 6, .inl fxej))]) [0, 1, 2, 3, 4, 5, 6, 7, 8, 9, 10, 11] rfl) hK (hD.sub [0, 1, 2, 3, 4, 5, 6, 7, 8, 9, 10, 11] (by decide) rfl) hN⟩ rfl rfl hl.1 rfl (lv_room (Nat.le_of_ble_eq_true rfl)) dX4_distance_12 ⟨Nat.zero_le _, Nat.zero_le _⟩) hS (fun q _ h => hFc q h) hFc (fun rz u t H locs ht hvm hw hB hz1 hk1 hS => ?_)
    obtain ⟨hP, hD⟩ := jn (wr := []) (w1 := [(ax, .inr (4, [.ref axr, .ref axt, .ref axm, .ref axb, .ref axe, .int vxk])), (axr, .inr (2, [.ref axrd, .int vxrs])), (axrd, .inl (cy, 8, .inl fxrd)), (axm, .inr (0, [.ref axmn, .ref axmg, .ref axmc])), (axmn, .inr (2, [.ref axmnd, .int r2.2.1])), (axmnd, .inl (cy, 8, .inl r2.2.2.1)), (axmg, .inr (2, [.ref axmgd, .int r2.2.2.2.1])), (axmgd, .inl (cy, 8, .inl r2.2.2.2.2.1)), (axmc, .inl (cy, 36, .inl r2.2.2.2.2.2)), (axb, .inr (3, [.int vxbb])), (axe, .inr (1, [.ref axej])), (axej, .inl (cy, 6, .inl fxej))]) (ws' := [(ax, .inr (4, [.ref axr, .ref axt, .ref axm, .ref axb, .ref axe, .int vxk])), (axr, .inr (2, [.ref axrd, .int vxrs])), (axrd, .inl (cy, 8, .inl fxrd)), (axm, .inr (0, [.ref axmn, .ref axmg, .ref axmc])), (axmn, .inr (2, [.ref axmnd, .int r2.2.1])), (axmnd, .inl (cy, 8, .inl r2.2.2.1)), (axmg, .inr (2, [.ref axmgd, .int r2.2.2.2.1])), (axmgd, .inl (cy, 8, .inl r2.2.2.2.2.1)), (axmc, .inl (cy, 36, .inl r2.2.2.2.2.2)), (axb, .inr (3, [.int vxbb])), (axe, .inr (1, [.ref axej])), (axej, .inl (cy, 6, .inl fxej))]) hP hD [0, 1, 2, 3, 4, 5, 6, 7, 8, 9, 10, 11] [] rfl rfl (by decide) (by decide) hk1 hFc hB ht [0, 1, 2, 3, 4, 5, 6, 7, 8, 9, 10, 11] rfl (by decide) rfl
    replace hw := hw.symm
    subst hw
    clear hFc hB hk1 hz1 hvm
    have h0 := Option.some.inj h
    subst h0
    exact W.iret hx hb hr (fun t ht hW => ⟨⟨_, (), rfl, rfl, QW_mk hP hK hD ht hW⟩, hS.F ht⟩) hS.2.2 dX4_distance_15
  · rw [if_pos c3] at h
    refine lv_bipush (v := (-2 : Int32)) hx hb dX4_distance_7 (by decide) ?_
    have h0 := Option.some.inj h
    subst h0
    exact W.iret hx hb hr (fun t ht hW => ⟨⟨_, (), rfl, rfl, QW_mk hP hK hD ht hW⟩, hS.F ht⟩) hS.2.2 dX4_distance_9

noncomputable def fX4_nearest (vxrs : Int32) (fxrd : Nat → Int32) (vxmns : Int32) (fxmnd : Nat → Int32) (vxmgs : Int32) (fxmgd : Nat → Int32) (fxmc : Nat → Int32) (vxbb : Int32) (fxej : Nat → Int32) (p0 : Int32) (p1 : Int32) : Option (Int32 × Int32 × (Nat → Int32) × Int32 × (Nat → Int32) × (Nat → Int32)) := bd (fX4_isSubject p0) fun r1 => if r1 = 0 then (some ((-2 : Int32), vxmns, fxmnd, vxmgs, fxmgd, fxmc)) else (bd (fX4_isRow p0) fun r2 => if r2 = 0 then (if p1 = 0 then (if p0 = (4 : Int32) then (bd (fX3_closest vxbb) fun r4 => some (r4, vxmns, fxmnd, vxmgs, fxmgd, fxmc)) else (bd (fX1_bestColouring fxej) fun r3 => some (r3, vxmns, fxmnd, vxmgs, fxmgd, fxmc))) else (some ((-2 : Int32), vxmns, fxmnd, vxmgs, fxmgd, fxmc))) else (bd (fX4_isPlace vxrs p1) fun r7 => if r7 = 0 then (some ((-2 : Int32), vxmns, fxmnd, vxmgs, fxmgd, fxmc)) else (bd (fX0_seek vxmns fxmnd vxmgs fxmgd fxmc vxrs fxrd p0) fun r8 => gin p1 8 (some (r8.2.2.1 p1.toNatClampNeg, r8.2.1, r8.2.2.1, r8.2.2.2.1, r8.2.2.2.2.1, r8.2.2.2.2.2)))))
set_option maxHeartbeats 4000000 in
set_option maxRecDepth 100000 in
theorem c_X4_nearest (l : Launch) (dC : Nat → ClassId) (dI : Nat → Nat → Nat) (cy : ClassId) (ax axr axt axm axb axe axrd axmn axmg axmc axmnd axmgd axej : Nat) (sz : Nat) (vxk : Int32) (vxrs : Int32) (fxrd : Nat → Int32) (vxmns : Int32) (fxmnd : Nat → Int32) (vxmgs : Int32) (fxmgd : Nat → Int32) (fxmc : Nat → Int32) (vxbb : Int32) (fxej : Nat → Int32) (p0 : Int32) (p1 : Int32) (res : Int32 × Int32 × (Nat → Int32) × Int32 × (Nat → Int32) × (Nat → Int32)) (h : fX4_nearest vxrs fxrd vxmns fxmnd vxmgs fxmgd fxmc vxbb fxej p0 p1 = some res) : Met l yX4_nearest wsX4_nearest ({ frames := 4, cells := 0, slots := 0, locals := 97 }) (va_Pc [.ref ax, .int p0, .int p1] (PW (dC, dI) cy sz [(ax, .inr (4, [.ref axr, .ref axt, .ref axm, .ref axb, .ref axe, .int vxk])), (axr, .inr (2, [.ref axrd, .int vxrs])), (axrd, .inl (cy, 8, .inl fxrd)), (axm, .inr (0, [.ref axmn, .ref axmg, .ref axmc])), (axmn, .inr (2, [.ref axmnd, .int vxmns])), (axmnd, .inl (cy, 8, .inl fxmnd)), (axmg, .inr (2, [.ref axmgd, .int vxmgs])), (axmgd, .inl (cy, 8, .inl fxmgd)), (axmc, .inl (cy, 36, .inl fxmc)), (axb, .inr (3, [.int vxbb])), (axe, .inr (1, [.ref axej])), (axej, .inl (cy, 6, .inl fxej))])) (va_Qi (fun (r : Int32) (_ : Unit) => r = res.1) (QW (dC, dI) cy (va_A [(ax, .inr (4, [.ref axr, .ref axt, .ref axm, .ref axb, .ref axe, .int vxk])), (axr, .inr (2, [.ref axrd, .int vxrs])), (axrd, .inl (cy, 8, .inl fxrd)), (axm, .inr (0, [.ref axmn, .ref axmg, .ref axmc])), (axmn, .inr (2, [.ref axmnd, .int vxmns])), (axmnd, .inl (cy, 8, .inl fxmnd)), (axmg, .inr (2, [.ref axmgd, .int vxmgs])), (axmgd, .inl (cy, 8, .inl fxmgd)), (axmc, .inl (cy, 36, .inl fxmc)), (axb, .inr (3, [.int vxbb])), (axe, .inr (1, [.ref axej])), (axej, .inl (cy, 6, .inl fxej))] sz) [(ax, .inr (4, [.ref axr, .ref axt, .ref axm, .ref axb, .ref axe, .int vxk])), (axr, .inr (2, [.ref axrd, .int vxrs])), (axrd, .inl (cy, 8, .inl fxrd)), (axm, .inr (0, [.ref axmn, .ref axmg, .ref axmc])), (axmn, .inr (2, [.ref axmnd, .int res.2.1])), (axmnd, .inl (cy, 8, .inl res.2.2.1)), (axmg, .inr (2, [.ref axmgd, .int res.2.2.2.1])), (axmgd, .inl (cy, 8, .inl res.2.2.2.2.1)), (axmc, .inl (cy, 36, .inl res.2.2.2.2.2)), (axb, .inr (3, [.int vxbb])), (axe, .inr (1, [.ref axej])), (axej, .inl (cy, 6, .inl fxej))]) (va_A [(ax, .inr (4, [.ref axr, .ref axt, .ref axm, .ref axb, .ref axe, .int vxk])), (axr, .inr (2, [.ref axrd, .int vxrs])), (axrd, .inl (cy, 8, .inl fxrd)), (axm, .inr (0, [.ref axmn, .ref axmg, .ref axmc])), (axmn, .inr (2, [.ref axmnd, .int vxmns])), (axmnd, .inl (cy, 8, .inl fxmnd)), (axmg, .inr (2, [.ref axmgd, .int vxmgs])), (axmgd, .inl (cy, 8, .inl fxmgd)), (axmc, .inl (cy, 36, .inl fxmc)), (axb, .inr (3, [.int vxbb])), (axe, .inr (1, [.ref axej])), (axej, .inl (cy, 6, .inl fxej))] sz)) 0 0 (va_A [(ax, .inr (4, [.ref axr, .ref axt, .ref axm, .ref axb, .ref axe, .int vxk])), (axr, .inr (2, [.ref axrd, .int vxrs])), (axrd, .inl (cy, 8, .inl fxrd)), (axm, .inr (0, [.ref axmn, .ref axmg, .ref axmc])), (axmn, .inr (2, [.ref axmnd, .int vxmns])), (axmnd, .inl (cy, 8, .inl fxmnd)), (axmg, .inr (2, [.ref axmgd, .int vxmgs])), (axmgd, .inl (cy, 8, .inl fxmgd)), (axmc, .inl (cy, 36, .inl fxmc)), (axb, .inr (3, [.int vxbb])), (axe, .inr (1, [.ref axej])), (axej, .inl (cy, 6, .inl fxej))] sz) := by
  refine Met.ofW (cc := cX4_nearest) (maxL := 3) (ret := (some .int)) (by decide) rfl ?_
  intro p e s m args below meth c s₁ B hml hv
  obtain ⟨rfl, hsz, hP, hK, hD0, hN⟩ := hv
  have hx := B.exec
  have hb := B.bytes
  have hr := B.returns
  have hts := atoms_spec (ws := wsX4_nearest) B.pre
  have hown : s.vm.findClass RX4 = some m.cls := findClass_of_methodNamed B.named
  have hlocks := B.notSynchronized
  subst hsz
  have hD := hD0.self (sz := s.heap.size)
  clear hD0
  generalize hAe : va_A [(ax, .inr (4, [.ref axr, .ref axt, .ref axm, .ref axb, .ref axe, .int vxk])), (axr, .inr (2, [.ref axrd, .int vxrs])), (axrd, .inl (cy, 8, .inl fxrd)), (axm, .inr (0, [.ref axmn, .ref axmg, .ref axmc])), (axmn, .inr (2, [.ref axmnd, .int vxmns])), (axmnd, .inl (cy, 8, .inl fxmnd)), (axmg, .inr (2, [.ref axmgd, .int vxmgs])), (axmgd, .inl (cy, 8, .inl fxmgd)), (axmc, .inl (cy, 36, .inl fxmc)), (axb, .inr (3, [.int vxbb])), (axe, .inr (1, [.ref axej])), (axej, .inl (cy, 6, .inl fxej))] s.heap.size = A at hD ⊢
  have hA : ∀ q : Nat, s.heap.size ≤ q → A q := fun q h => by rw [← hAe]; exact Or.inr h
  have hS : va_S A s.heap s.heap [] := va_S.rf
  have hl := lv_entry ([.ref ax, .int p0, .int p1]) (n := 3) (Nat.le_of_ble_eq_true rfl)
  rw [lg_entry_eq]
  generalize (lg_sl ([.ref ax, .int p0, .int p1]) ++ List.replicate (3 - (lg_sl ([.ref ax, .int p0, .int p1])).length) Slot.unset).toArray = ls at hl ⊢
  replace hl : lv_has ls 3 [(0, .ref ax), (1, .int p0), (2, .int p1)] := hl
  replace hP : va_P (dC, dI) vwCl [(ax, .inr (4, [.ref axr, .ref axt, .ref axm, .ref axb, .ref axe, .int vxk])), (axr, .inr (2, [.ref axrd, .int vxrs])), (axrd, .inl (cy, 8, .inl fxrd)), (axm, .inr (0, [.ref axmn, .ref axmg, .ref axmc])), (axmn, .inr (2, [.ref axmnd, .int vxmns])), (axmnd, .inl (cy, 8, .inl fxmnd)), (axmg, .inr (2, [.ref axmgd, .int vxmgs])), (axmgd, .inl (cy, 8, .inl fxmgd)), (axmc, .inl (cy, 36, .inl fxmc)), (axb, .inr (3, [.int vxbb])), (axe, .inr (1, [.ref axej])), (axej, .inl (cy, 6, .inl fxej))] s.heap := hP
  obtain ⟨locs, hlocs⟩ : ∃ lc : List Loc, lc = [] := ⟨_, rfl⟩
  rw [← hlocs] at hS ⊢
  obtain ⟨H, hH⟩ : ∃ H : Heap, H = s.heap := ⟨_, rfl⟩
  have hP2 := hP; rw [← hH] at hP2
  have hS2 : va_S A s.heap H locs := by rw [hH]; exact hS
  suffices hgo : W p l e (headSpec wsX4_nearest ({ frames := 4, cells := 0, slots := 0, locals := 97 })).room s m (([.ref ax, .int p0, .int p1] : List Value).toArray) below meth c H locs 0 0 (MQ below (va_Qi (fun (r : Int32) (_ : Unit) => r = res.1) (QW (dC, dI) cy A [(ax, .inr (4, [.ref axr, .ref axt, .ref axm, .ref axb, .ref axe, .int vxk])), (axr, .inr (2, [.ref axrd, .int vxrs])), (axrd, .inl (cy, 8, .inl fxrd)), (axm, .inr (0, [.ref axmn, .ref axmg, .ref axmc])), (axmn, .inr (2, [.ref axmnd, .int res.2.1])), (axmnd, .inl (cy, 8, .inl res.2.2.1)), (axmg, .inr (2, [.ref axmgd, .int res.2.2.2.1])), (axmgd, .inl (cy, 8, .inl res.2.2.2.2.1)), (axmc, .inl (cy, 36, .inl res.2.2.2.2.2)), (axb, .inr (3, [.int vxbb])), (axe, .inr (1, [.ref axej])), (axej, .inl (cy, 6, .inl fxej))]) A) (([.ref ax, .int p0, .int p1] : List Value).toArray) s 0 0 A) (F0 m 0 ls []) by rw [hH] at hgo; exact hgo
  replace hP := hP2
  replace hS := hS2
  clear hP2 hS2
  have hin_X0 : ∀ w ∈ wsX00, w ∈ wsX4_nearest := by decide +kernel
  have hin_X2 : ∀ w ∈ wsX20, w ∈ wsX4_nearest := by decide +kernel
  have hin_X4 : ∀ w ∈ wsX40, w ∈ wsX4_nearest := by decide +kernel
  have hf_10 := hts (.fieldLink RX4 10 "FewLooks" "row" "LFewLooks$Row;") (by decide +kernel)
  have hf_22 := hts (.fieldLink RX4 22 "FewLooks" "mender" "LFewLooks$Mender;") (by decide +kernel)
  have hf_29 := hts (.fieldLink RX4 29 "FewLooks" "table" "LFewLooks$Table;") (by decide +kernel)
  have hf_36 := hts (.fieldLink RX4 36 "FewLooks" "net" "LFewLooks$Net;") (by decide +kernel)
  unfold fX4_nearest at h
  refine lv_iload_n hx hb dX4_nearest_0 rfl (lv_at hl 1 rfl) ?_
  obtain ⟨r1, hr1, h⟩ := bd_some h
  have hFc := va_free (wc := []) hD hS hA [] rfl
  refine va_calli (va_runS (As := [.int p0]) (rest := []) ⟨hx, hb, hml, hown, hts⟩ (c_X4_isSubject l dC dI cy  H.size  p0 r1 hr1) (va_cwS 1 hts gX4_nearest_X4_isSubject rfl rfl rfl (by decide +kernel) ⟨Nat.le_of_ble_eq_true rfl, Nat.le_of_ble_eq_true rfl⟩) ⟨PW_fb, PW_pre (hP.sub (ws' := []) [] rfl) hK (hD.sub [] (by decide) rfl) hN⟩ rfl rfl hl.1 rfl (lv_room (Nat.le_of_ble_eq_true rfl)) dX4_nearest_1 ⟨Nat.zero_le _, Nat.zero_le _⟩) hS (fun q _ h => hFc q h) hFc (fun rz u t H locs ht hvm hw hB hz1 hk1 hS => ?_)
  obtain ⟨hP, hD⟩ := jn (wr := [(ax, .inr (4, [.ref axr, .ref axt, .ref axm, .ref axb, .ref axe, .int vxk])), (axr, .inr (2, [.ref axrd, .int vxrs])), (axrd, .inl (cy, 8, .inl fxrd)), (axm, .inr (0, [.ref axmn, .ref axmg, .ref axmc])), (axmn, .inr (2, [.ref axmnd, .int vxmns])), (axmnd, .inl (cy, 8, .inl fxmnd)), (axmg, .inr (2, [.ref axmgd, .int vxmgs])), (axmgd, .inl (cy, 8, .inl fxmgd)), (axmc, .inl (cy, 36, .inl fxmc)), (axb, .inr (3, [.int vxbb])), (axe, .inr (1, [.ref axej])), (axej, .inl (cy, 6, .inl fxej))]) (w1 := []) (ws' := [(ax, .inr (4, [.ref axr, .ref axt, .ref axm, .ref axb, .ref axe, .int vxk])), (axr, .inr (2, [.ref axrd, .int vxrs])), (axrd, .inl (cy, 8, .inl fxrd)), (axm, .inr (0, [.ref axmn, .ref axmg, .ref axmc])), (axmn, .inr (2, [.ref axmnd, .int vxmns])), (axmnd, .inl (cy, 8, .inl fxmnd)), (axmg, .inr (2, [.ref axmgd, .int vxmgs])), (axmgd, .inl (cy, 8, .inl fxmgd)), (axmc, .inl (cy, 36, .inl fxmc)), (axb, .inr (3, [.int vxbb])), (axe, .inr (1, [.ref axej])), (axej, .inl (cy, 6, .inl fxej))]) hP hD [] [0, 1, 2, 3, 4, 5, 6, 7, 8, 9, 10, 11] rfl rfl (by decide) (by decide) hk1 hFc hB ht [0, 1, 2, 3, 4, 5, 6, 7, 8, 9, 10, 11] rfl (by decide) rfl
  obtain ⟨hw, br1⟩ := hw
  replace hw := hw.symm
  subst hw
  clear hFc hB hk1 hz1 hvm
  refine lv_if_ne (tgt := 10) hx hb dX4_nearest_4 (by decide) (fun c11 => ?_) (fun c11 => ?_)
  · rw [if_neg c11] at h
    refine lv_iload_n hx hb dX4_nearest_10 rfl (lv_at hl 1 rfl) ?_
    obtain ⟨r2, hr2, h⟩ := bd_some h
    have hFc := va_free (wc := []) hD hS hA [] rfl
    refine va_calli (va_runS (As := [.int p0]) (rest := []) ⟨hx, hb, hml, hown, hts⟩ (c_X4_isRow l dC dI cy  H.size  p0 r2 hr2) (va_cwS 1 hts gX4_nearest_X4_isRow rfl rfl rfl (by decide +kernel) ⟨Nat.le_of_ble_eq_true rfl, Nat.le_of_ble_eq_true rfl⟩) ⟨PW_fb, PW_pre (hP.sub (ws' := []) [] rfl) hK (hD.sub [] (by decide) rfl) hN⟩ rfl rfl hl.1 rfl (lv_room (Nat.le_of_ble_eq_true rfl)) dX4_nearest_11 ⟨Nat.zero_le _, Nat.zero_le _⟩) hS (fun q _ h => hFc q h) hFc (fun rz u t H locs ht hvm hw hB hz1 hk1 hS => ?_)
    obtain ⟨hP, hD⟩ := jn (wr := [(ax, .inr (4, [.ref axr, .ref axt, .ref axm, .ref axb, .ref axe, .int vxk])), (axr, .inr (2, [.ref axrd, .int vxrs])), (axrd, .inl (cy, 8, .inl fxrd)), (axm, .inr (0, [.ref axmn, .ref axmg, .ref axmc])), (axmn, .inr (2, [.ref axmnd, .int vxmns])), (axmnd, .inl (cy, 8, .inl fxmnd)), (axmg, .inr (2, [.ref axmgd, .int vxmgs])), (axmgd, .inl (cy, 8, .inl fxmgd)), (axmc, .inl (cy, 36, .inl fxmc)), (axb, .inr (3, [.int vxbb])), (axe, .inr (1, [.ref axej])), (axej, .inl (cy, 6, .inl fxej))]) (w1 := []) (ws' := [(ax, .inr (4, [.ref axr, .ref axt, .ref axm, .ref axb, .ref axe, .int vxk])), (axr, .inr (2, [.ref axrd, .int vxrs])), (axrd, .inl (cy, 8, .inl fxrd)), (axm, .inr (0, [.ref axmn, .ref axmg, .ref axmc])), (axmn, .inr (2, [.ref axmnd, .int vxmns])), (axmnd, .inl (cy, 8, .inl fxmnd)), (axmg, .inr (2, [.ref axmgd, .int vxmgs])), (axmgd, .inl (cy, 8, .inl fxmgd)), (axmc, .inl (cy, 36, .inl fxmc)), (axb, .inr (3, [.int vxbb])), (axe, .inr (1, [.ref axej])), (axej, .inl (cy, 6, .inl fxej))]) hP hD [] [0, 1, 2, 3, 4, 5, 6, 7, 8, 9, 10, 11] rfl rfl (by decide) (by decide) hk1 hFc hB ht [0, 1, 2, 3, 4, 5, 6, 7, 8, 9, 10, 11] rfl (by decide) rfl
    obtain ⟨hw, br2⟩ := hw
    replace hw := hw.symm
    subst hw
    clear hFc hB hk1 hz1 hvm
    refine lv_if_eq (tgt := 54) hx hb dX4_nearest_14 (by decide) (fun c10 => ?_) (fun c10 => ?_)
    · rw [if_pos c10] at h
      refine lv_iload_n hx hb dX4_nearest_54 rfl (lv_at hl 2 rfl) ?_
      refine lv_if_eq (tgt := 61) hx hb dX4_nearest_55 (by decide) (fun c6 => ?_) (fun c6 => ?_)
      · rw [if_pos c6] at h
        refine lv_iload_n hx hb dX4_nearest_61 rfl (lv_at hl 1 rfl) ?_
        refine lv_iconst (v := (4 : Int32)) hx hb dX4_nearest_62 (by decide) ?_
        refine lv_icmp_ne (tgt := 76) hx hb dX4_nearest_63 (by decide) (fun c5 => ?_) (fun c5 => ?_)
        · rw [if_neg c5] at h
          refine lv_aload_n hx hb dX4_nearest_76 rfl (lv_at hl 0 rfl) ?_
          refine va_get (D := (dC, dI)) (ci := 4) (v := .ref axe) (C := RX4) (T := TX4) (N := 6) hx hb hts hin_X4 hown hK hP 0 rfl rfl 4 (by decide) (hf_36) (fun _ h9 => h9) rfl dX4_nearest_77 ?_
          obtain ⟨r3, hr3, h⟩ := bd_some h
          have hFc := va_free (wc := [(axe, .inr (1, [.ref axej])), (axej, .inl (cy, 6, .inl fxej))]) hD hS hA [10, 11] rfl
          refine va_calli (va_runV (As := []) (rest := []) ⟨hx, hb, hml, hown, hts⟩ (c_X1_bestColouring l dC dI cy axe axej H.size fxej  r3 hr3) (cwV 0 hts gX4_nearest_X1_bestColouring rfl rfl rfl (by decide +kernel) ⟨Nat.le_of_ble_eq_true rfl, Nat.le_of_ble_eq_true rfl⟩) ⟨PW_fb, va_recv hK hP (ci := 1) (q0 := 10) rfl rfl, PW_pre (hP.sub (ws' := [(axe, .inr (1, [.ref axej])), (axej, .inl (cy, 6, .inl fxej))]) [10, 11] rfl) hK (hD.sub [10, 11] (by decide) rfl) hN⟩ rfl rfl hl.1 rfl (lv_room (Nat.le_of_ble_eq_true rfl)) dX4_nearest_80 ⟨Nat.zero_le _, Nat.zero_le _⟩) hS (fun q _ h => hFc q h) hFc (fun rz u t H locs ht hvm hw hB hz1 hk1 hS => ?_)
          obtain ⟨hP, hD⟩ := jn (wr := [(ax, .inr (4, [.ref axr, .ref axt, .ref axm, .ref axb, .ref axe, .int vxk])), (axr, .inr (2, [.ref axrd, .int vxrs])), (axrd, .inl (cy, 8, .inl fxrd)), (axm, .inr (0, [.ref axmn, .ref axmg, .ref axmc])), (axmn, .inr (2, [.ref axmnd, .int vxmns])), (axmnd, .inl (cy, 8, .inl fxmnd)), (axmg, .inr (2, [.ref axmgd, .int vxmgs])), (axmgd, .inl (cy, 8, .inl fxmgd)), (axmc, .inl (cy, 36, .inl fxmc)), (axb, .inr (3, [.int vxbb]))]) (w1 := [(axe, .inr (1, [.ref axej])), (axej, .inl (cy, 6, .inl fxej))]) (ws' := [(ax, .inr (4, [.ref axr, .ref axt, .ref axm, .ref axb, .ref axe, .int vxk])), (axr, .inr (2, [.ref axrd, .int vxrs])), (axrd, .inl (cy, 8, .inl fxrd)), (axm, .inr (0, [.ref axmn, .ref axmg, .ref axmc])), (axmn, .inr (2, [.ref axmnd, .int vxmns])), (axmnd, .inl (cy, 8, .inl fxmnd)), (axmg, .inr (2, [.ref axmgd, .int vxmgs])), (axmgd, .inl (cy, 8, .inl fxmgd)), (axmc, .inl (cy, 36, .inl fxmc)), (axb, .inr (3, [.int vxbb])), (axe, .inr (1, [.ref axej])), (axej, .inl (cy, 6, .inl fxej))]) hP hD [10, 11] [0, 1, 2, 3, 4, 5, 6, 7, 8, 9] rfl rfl (by decide) (by decide) hk1 hFc hB ht [0, 1, 2, 3, 4, 5, 6, 7, 8, 9, 10, 11] rfl (by decide) rfl
          replace hw := hw.symm
          subst hw
          clear hFc hB hk1 hz1 hvm
          have h0 := Option.some.inj h
          subst h0
          exact W.iret hx hb hr (fun t ht hW => ⟨⟨_, (), rfl, rfl, QW_mk hP hK hD ht hW⟩, hS.F ht⟩) hS.2.2 dX4_nearest_83
        · rw [if_pos c5] at h
          refine lv_aload_n hx hb dX4_nearest_66 rfl (lv_at hl 0 rfl) ?_
          refine va_get (D := (dC, dI)) (ci := 4) (v := .ref axb) (C := RX4) (T := TX4) (N := 6) hx hb hts hin_X4 hown hK hP 0 rfl rfl 3 (by decide) (hf_29) (fun _ h9 => h9) rfl dX4_nearest_67 ?_
          obtain ⟨r4, hr4, h⟩ := bd_some h
          have hFc := va_free (wc := [(axb, .inr (3, [.int vxbb]))]) hD hS hA [9] rfl
          refine va_calli (va_runV (As := []) (rest := []) ⟨hx, hb, hml, hown, hts⟩ (c_X3_closest l dC dI cy axb H.size vxbb  r4 hr4) (cwV 0 hts gX4_nearest_X3_closest rfl rfl rfl (by decide +kernel) ⟨Nat.le_of_ble_eq_true rfl, Nat.le_of_ble_eq_true rfl⟩) ⟨PW_fb, va_recv hK hP (ci := 3) (q0 := 9) rfl rfl, PW_pre (hP.sub (ws' := [(axb, .inr (3, [.int vxbb]))]) [9] rfl) hK (hD.sub [9] (by decide) rfl) hN⟩ rfl rfl hl.1 rfl (lv_room (Nat.le_of_ble_eq_true rfl)) dX4_nearest_70 ⟨Nat.zero_le _, Nat.zero_le _⟩) hS (fun q _ h => hFc q h) hFc (fun rz u t H locs ht hvm hw hB hz1 hk1 hS => ?_)
          obtain ⟨hP, hD⟩ := jn (wr := [(ax, .inr (4, [.ref axr, .ref axt, .ref axm, .ref axb, .ref axe, .int vxk])), (axr, .inr (2, [.ref axrd, .int vxrs])), (axrd, .inl (cy, 8, .inl fxrd)), (axm, .inr (0, [.ref axmn, .ref axmg, .ref axmc])), (axmn, .inr (2, [.ref axmnd, .int vxmns])), (axmnd, .inl (cy, 8, .inl fxmnd)), (axmg, .inr (2, [.ref axmgd, .int vxmgs])), (axmgd, .inl (cy, 8, .inl fxmgd)), (axmc, .inl (cy, 36, .inl fxmc)), (axe, .inr (1, [.ref axej])), (axej, .inl (cy, 6, .inl fxej))]) (w1 := [(axb, .inr (3, [.int vxbb]))]) (ws' := [(ax, .inr (4, [.ref axr, .ref axt, .ref axm, .ref axb, .ref axe, .int vxk])), (axr, .inr (2, [.ref axrd, .int vxrs])), (axrd, .inl (cy, 8, .inl fxrd)), (axm, .inr (0, [.ref axmn, .ref axmg, .ref axmc])), (axmn, .inr (2, [.ref axmnd, .int vxmns])), (axmnd, .inl (cy, 8, .inl fxmnd)), (axmg, .inr (2, [.ref axmgd, .int vxmgs])), (axmgd, .inl (cy, 8, .inl fxmgd)), (axmc, .inl (cy, 36, .inl fxmc)), (axb, .inr (3, [.int vxbb])), (axe, .inr (1, [.ref axej])), (axej, .inl (cy, 6, .inl fxej))]) hP hD [9] [0, 1, 2, 3, 4, 5, 6, 7, 8, 10, 11] rfl rfl (by decide) (by decide) hk1 hFc hB ht [0, 1, 2, 3, 4, 5, 6, 7, 8, 11, 9, 10] rfl (by decide) rfl
          replace hw := hw.symm
          subst hw
          clear hFc hB hk1 hz1 hvm
          refine lv_goto (tgt := 83) hx hb dX4_nearest_73 (by decide) ?_
          have h0 := Option.some.inj h
          subst h0
          exact W.iret hx hb hr (fun t ht hW => ⟨⟨_, (), rfl, rfl, QW_mk hP hK hD ht hW⟩, hS.F ht⟩) hS.2.2 dX4_nearest_83
      · rw [if_neg c6] at h
        refine lv_bipush (v := (-2 : Int32)) hx hb dX4_nearest_58 (by decide) ?_
        have h0 := Option.some.inj h
        subst h0
        exact W.iret hx hb hr (fun t ht hW => ⟨⟨_, (), rfl, rfl, QW_mk hP hK hD ht hW⟩, hS.F ht⟩) hS.2.2 dX4_nearest_60
    · rw [if_neg c10] at h
      refine lv_aload_n hx hb dX4_nearest_17 rfl (lv_at hl 0 rfl) ?_
      refine lv_iload_n hx hb dX4_nearest_18 rfl (lv_at hl 2 rfl) ?_
      obtain ⟨r7, hr7, h⟩ := bd_some h
      have hFc := va_free (wc := [(ax, .inr (4, [.ref axr, .ref axt, .ref axm, .ref axb, .ref axe, .int vxk])), (axr, .inr (2, [.ref axrd, .int vxrs]))]) hD hS hA [0, 1] rfl
      refine va_calli (va_runV (As := [.int p1]) (rest := []) ⟨hx, hb, hml, hown, hts⟩ (c_X4_isPlace l dC dI cy ax axr axt axm axb axe axrd H.size vxk vxrs p1 r7 hr7) (cwV 1 hts gX4_nearest_X4_isPlace rfl rfl rfl (by decide +kernel) ⟨Nat.le_of_ble_eq_true rfl, Nat.le_of_ble_eq_true rfl⟩) ⟨PW_fb, va_recv hK hP (ci := 4) (q0 := 0) rfl rfl, PW_pre (hP.sub (ws' := [(ax, .inr (4, [.ref axr, .ref axt, .ref axm, .ref axb, .ref axe, .int vxk])), (axr, .inr (2, [.ref axrd, .int vxrs]))]) [0, 1] rfl) hK (hD.sub [0, 1] (by decide) rfl) hN⟩ rfl rfl hl.1 rfl (lv_room (Nat.le_of_ble_eq_true rfl)) dX4_nearest_19 ⟨Nat.zero_le _, Nat.zero_le _⟩) hS (fun q _ h => hFc q h) hFc (fun rz u t H locs ht hvm hw hB hz1 hk1 hS => ?_)
      obtain ⟨hP, hD⟩ := jn (wr := [(axrd, .inl (cy, 8, .inl fxrd)), (axm, .inr (0, [.ref axmn, .ref axmg, .ref axmc])), (axmn, .inr (2, [.ref axmnd, .int vxmns])), (axmnd, .inl (cy, 8, .inl fxmnd)), (axmg, .inr (2, [.ref axmgd, .int vxmgs])), (axmgd, .inl (cy, 8, .inl fxmgd)), (axmc, .inl (cy, 36, .inl fxmc)), (axb, .inr (3, [.int vxbb])), (axe, .inr (1, [.ref axej])), (axej, .inl (cy, 6, .inl fxej))]) (w1 := [(ax, .inr (4, [.ref axr, .ref axt, .ref axm, .ref axb, .ref axe, .int vxk])), (axr, .inr (2, [.ref axrd, .int vxrs]))]) (ws' := [(ax, .inr (4, [.ref axr, .ref axt, .ref axm, .ref axb, .ref axe, .int vxk])), (axr, .inr (2, [.ref axrd, .int vxrs])), (axrd, .inl (cy, 8, .inl fxrd)), (axm, .inr (0, [.ref axmn, .ref axmg, .ref axmc])), (axmn, .inr (2, [.ref axmnd, .int vxmns])), (axmnd, .inl (cy, 8, .inl fxmnd)), (axmg, .inr (2, [.ref axmgd, .int vxmgs])), (axmgd, .inl (cy, 8, .inl fxmgd)), (axmc, .inl (cy, 36, .inl fxmc)), (axb, .inr (3, [.int vxbb])), (axe, .inr (1, [.ref axej])), (axej, .inl (cy, 6, .inl fxej))]) hP hD [0, 1] [2, 3, 4, 5, 6, 7, 8, 9, 10, 11] rfl rfl (by decide) (by decide) hk1 hFc hB ht [10, 11, 0, 1, 2, 3, 4, 5, 6, 7, 8, 9] rfl (by decide) rfl
      obtain ⟨hw, br7⟩ := hw
      replace hw := hw.symm
      subst hw
      clear hFc hB hk1 hz1 hvm
      refine lv_if_ne (tgt := 28) hx hb dX4_nearest_22 (by decide) (fun c9 => ?_) (fun c9 => ?_)
      · rw [if_neg c9] at h
        refine lv_aload_n hx hb dX4_nearest_28 rfl (lv_at hl 0 rfl) ?_
        refine va_get (D := (dC, dI)) (ci := 4) (v := .ref axm) (C := RX4) (T := TX4) (N := 6) hx hb hts hin_X4 hown hK hP 0 rfl rfl 2 (by decide) (hf_22) (fun _ h9 => h9) rfl dX4_nearest_29 ?_
        refine lv_aload_n hx hb dX4_nearest_32 rfl (lv_at hl 0 rfl) ?_
        refine va_get (D := (dC, dI)) (ci := 4) (v := .ref axr) (C := RX4) (T := TX4) (N := 6) hx hb hts hin_X4 hown hK hP 0 rfl rfl 0 (by decide) (hf_10) (fun _ h9 => h9) rfl dX4_nearest_33 ?_
        refine lv_iload_n hx hb dX4_nearest_36 rfl (lv_at hl 1 rfl) ?_
        obtain ⟨r8, hr8, h⟩ := bd_some h
        have hFc := va_free (wc := [(axm, .inr (0, [.ref axmn, .ref axmg, .ref axmc])), (axmn, .inr (2, [.ref axmnd, .int vxmns])), (axmnd, .inl (cy, 8, .inl fxmnd)), (axmg, .inr (2, [.ref axmgd, .int vxmgs])), (axmgd, .inl (cy, 8, .inl fxmgd)), (axmc, .inl (cy, 36, .inl fxmc)), (axr, .inr (2, [.ref axrd, .int vxrs])), (axrd, .inl (cy, 8, .inl fxrd))]) hD hS hA [3, 4, 5, 6, 7, 8, 1, 2] rfl
        refine va_calli (va_runV (As := [.ref axr, .int p0]) (rest := []) ⟨hx, hb, hml, hown, hts⟩ (c_X0_seek l dC dI cy axm axmn axmg axmc axmnd axmgd axr axrd H.size vxmns fxmnd vxmgs fxmgd fxmc vxrs fxrd p0 r8 hr8) (cwV 2 hts gX4_nearest_X0_seek rfl rfl rfl (by decide +kernel) ⟨Nat.le_of_ble_eq_true rfl, Nat.le_of_ble_eq_true rfl⟩) ⟨PW_fb, va_recv hK hP (ci := 0) (q0 := 3) rfl rfl, PW_pre (hP.sub (ws' := [(axm, .inr (0, [.ref axmn, .ref axmg, .ref axmc])), (axmn, .inr (2, [.ref axmnd, .int vxmns])), (axmnd, .inl (cy, 8, .inl fxmnd)), (axmg, .inr (2, [.ref axmgd, .int vxmgs])), (axmgd, .inl (cy, 8, .inl fxmgd)), (axmc, .inl (cy, 36, .inl fxmc)), (axr, .inr (2, [.ref axrd, .int vxrs])), (axrd, .inl (cy, 8, .inl fxrd))]) [3, 4, 5, 6, 7, 8, 1, 2] rfl) hK (hD.sub [3, 4, 5, 6, 7, 8, 1, 2] (by decide) rfl) hN⟩ rfl rfl hl.1 rfl (lv_room (Nat.le_of_ble_eq_true rfl)) dX4_nearest_37 ⟨Nat.zero_le _, Nat.zero_le _⟩) hS (fun q _ h => hFc q h) hFc (fun rz u t H locs ht hvm hw hB hz1 hk1 hS => ?_)
        obtain ⟨hP, hD⟩ := jn (wr := [(ax, .inr (4, [.ref axr, .ref axt, .ref axm, .ref axb, .ref axe, .int vxk])), (axb, .inr (3, [.int vxbb])), (axe, .inr (1, [.ref axej])), (axej, .inl (cy, 6, .inl fxej))]) (w1 := [(axm, .inr (0, [.ref axmn, .ref axmg, .ref axmc])), (axmn, .inr (2, [.ref axmnd, .int r8.2.1])), (axmnd, .inl (cy, 8, .inl r8.2.2.1)), (axmg, .inr (2, [.ref axmgd, .int r8.2.2.2.1])), (axmgd, .inl (cy, 8, .inl r8.2.2.2.2.1)), (axmc, .inl (cy, 36, .inl r8.2.2.2.2.2)), (axr, .inr (2, [.ref axrd, .int vxrs])), (axrd, .inl (cy, 8, .inl fxrd))]) (ws' := [(ax, .inr (4, [.ref axr, .ref axt, .ref axm, .ref axb, .ref axe, .int vxk])), (axr, .inr (2, [.ref axrd, .int vxrs])), (axrd, .inl (cy, 8, .inl fxrd)), (axm, .inr (0, [.ref axmn, .ref axmg, .ref axmc])), (axmn, .inr (2, [.ref axmnd, .int r8.2.1])), (axmnd, .inl (cy, 8, .inl r8.2.2.1)), (axmg, .inr (2, [.ref axmgd, .int r8.2.2.2.1])), (axmgd, .inl (cy, 8, .inl r8.2.2.2.2.1)), (axmc, .inl (cy, 36, .inl r8.2.2.2.2.2)), (axb, .inr (3, [.int vxbb])), (axe, .inr (1, [.ref axej])), (axej, .inl (cy, 6, .inl fxej))]) hP hD [3, 4, 5, 6, 7, 8, 1, 2] [0, 9, 10, 11] rfl rfl (by decide) (by decide) hk1 hFc hB ht [0, 10, 11, 4, 5, 6, 7, 8, 9, 1, 2, 3] rfl (by decide) rfl
        replace hw := hw.symm
        subst hw
        clear hFc hB hk1 hz1 hvm
        refine lv_pop hx hb dX4_nearest_40 rfl ?_
        refine lv_aload_n hx hb dX4_nearest_41 rfl (lv_at hl 0 rfl) ?_
        refine va_get (D := (dC, dI)) (ci := 4) (v := .ref axm) (C := RX4) (T := TX4) (N := 6) hx hb hts hin_X4 hown hK hP 0 rfl rfl 2 (by decide) (hf_22) (fun _ h9 => h9) rfl dX4_nearest_42 ?_
        refine va_getN (D := (dC, dI)) (ci := 0) (v := .ref axmn) (C := RX0) (T := TX0) (N := 3) hx hb hts hin_X0 hown hK hP 3 rfl rfl 0 (by decide) (va_Nw.use rfl (hN.2.2.2.1)) (fun _ h9 => h9) rfl dX4_nearest_45 ?_
        refine va_getN (D := (dC, dI)) (ci := 2) (v := .ref axmnd) (C := RX2) (T := TX2) (N := 2) hx hb hts hin_X2 hown hK hP 4 rfl rfl 0 (by decide) (va_Nw.use rfl (hN.2.1)) (fun _ h9 => h9) rfl dX4_nearest_48 ?_
        refine lv_iload_n hx hb dX4_nearest_51 rfl (lv_at hl 2 rfl) ?_
        obtain ⟨hi, h⟩ := gin_some h
        refine va_iald hx hb hK hP 5 0 rfl rfl hi dX4_nearest_52 ?_
        have h0 := Option.some.inj h
        subst h0
        exact W.iret hx hb hr (fun t ht hW => ⟨⟨_, (), rfl, rfl, QW_mk hP hK hD ht hW⟩, hS.F ht⟩) hS.2.2 dX4_nearest_53
      · rw [if_pos c9] at h
        refine lv_bipush (v := (-2 : Int32)) hx hb dX4_nearest_25 (by decide) ?_
        have h0 := Option.some.inj h
        subst h0
        exact W.iret hx hb hr (fun t ht hW => ⟨⟨_, (), rfl, rfl, QW_mk hP hK hD ht hW⟩, hS.F ht⟩) hS.2.2 dX4_nearest_27
  · rw [if_pos c11] at h
    refine lv_bipush (v := (-2 : Int32)) hx hb dX4_nearest_7 (by decide) ?_
    have h0 := Option.some.inj h
    subst h0
    exact W.iret hx hb hr (fun t ht hW => ⟨⟨_, (), rfl, rfl, QW_mk hP hK hD ht hW⟩, hS.F ht⟩) hS.2.2 dX4_nearest_9

noncomputable def fX4_mend (vxrs : Int32) (fxrd : Nat → Int32) (vxmns : Int32) (fxmnd : Nat → Int32) (vxmgs : Int32) (fxmgd : Nat → Int32) (fxmc : Nat → Int32) (vxbb : Int32) (fxej : Nat → Int32) (p0 : Int32) : Option (Int32 × Int32 × (Nat → Int32) × Int32 × (Nat → Int32) × Int32 × (Nat → Int32) × (Nat → Int32) × Int32 × (Nat → Int32)) := bd (fX4_isSubject p0) fun r1 => if r1 = 0 then (some ((-2 : Int32), vxrs, fxrd, vxmns, fxmnd, vxmgs, fxmgd, fxmc, vxbb, fxej)) else (bd (fX4_howFar vxrs fxrd vxmns fxmnd vxmgs fxmgd fxmc vxbb fxej p0) fun r2 => bd (fX4_isRow p0) fun r3 => if r3 = 0 then (if p0 = (4 : Int32) then (bd (fX3_closest vxbb) fun r6 => bd (fX3_parities r6) fun r7 => some (r2.1, vxrs, fxrd, r2.2.1, r2.2.2.1, r2.2.2.2.1, r2.2.2.2.2.1, r2.2.2.2.2.2, r7, fxej)) else (bd (fX1_bestColouring fxej) fun r4 => bd (fX1_cutLikeLines fxej r4) fun r5 => some (r2.1, vxrs, fxrd, r2.2.1, r2.2.2.1, r2.2.2.2.1, r2.2.2.2.2.1, r2.2.2.2.2.2, vxbb, r5))) else (bd (fX2_become vxrs fxrd r2.2.1 r2.2.2.1) fun r9 => some (r2.1, r9.1, r9.2, r2.2.1, r2.2.2.1, r2.2.2.2.1, r2.2.2.2.2.1, r2.2.2.2.2.2, vxbb, fxej)))
set_option maxHeartbeats 4000000 in
set_option maxRecDepth 100000 in
theorem c_X4_mend (l : Launch) (dC : Nat → ClassId) (dI : Nat → Nat → Nat) (cy : ClassId) (ax axr axt axm axb axe axrd axmn axmg axmc axmnd axmgd axej : Nat) (sz : Nat) (vxk : Int32) (vxrs : Int32) (fxrd : Nat → Int32) (vxmns : Int32) (fxmnd : Nat → Int32) (vxmgs : Int32) (fxmgd : Nat → Int32) (fxmc : Nat → Int32) (vxbb : Int32) (fxej : Nat → Int32) (p0 : Int32) (res : Int32 × Int32 × (Nat → Int32) × Int32 × (Nat → Int32) × Int32 × (Nat → Int32) × (Nat → Int32) × Int32 × (Nat → Int32)) (h : fX4_mend vxrs fxrd vxmns fxmnd vxmgs fxmgd fxmc vxbb fxej p0 = some res) : Met l yX4_mend wsX4_mend ({ frames := 5, cells := 0, slots := 0, locals := 118 }) (va_Pc [.ref ax, .int p0] (PW (dC, dI) cy sz [(ax, .inr (4, [.ref axr, .ref axt, .ref axm, .ref axb, .ref axe, .int vxk])), (axr, .inr (2, [.ref axrd, .int vxrs])), (axrd, .inl (cy, 8, .inl fxrd)), (axm, .inr (0, [.ref axmn, .ref axmg, .ref axmc])), (axmn, .inr (2, [.ref axmnd, .int vxmns])), (axmnd, .inl (cy, 8, .inl fxmnd)), (axmg, .inr (2, [.ref axmgd, .int vxmgs])), (axmgd, .inl (cy, 8, .inl fxmgd)), (axmc, .inl (cy, 36, .inl fxmc)), (axb, .inr (3, [.int vxbb])), (axe, .inr (1, [.ref axej])), (axej, .inl (cy, 6, .inl fxej))])) (va_Qi (fun (r : Int32) (_ : Unit) => r = res.1) (QW (dC, dI) cy (va_A [(ax, .inr (4, [.ref axr, .ref axt, .ref axm, .ref axb, .ref axe, .int vxk])), (axr, .inr (2, [.ref axrd, .int vxrs])), (axrd, .inl (cy, 8, .inl fxrd)), (axm, .inr (0, [.ref axmn, .ref axmg, .ref axmc])), (axmn, .inr (2, [.ref axmnd, .int vxmns])), (axmnd, .inl (cy, 8, .inl fxmnd)), (axmg, .inr (2, [.ref axmgd, .int vxmgs])), (axmgd, .inl (cy, 8, .inl fxmgd)), (axmc, .inl (cy, 36, .inl fxmc)), (axb, .inr (3, [.int vxbb])), (axe, .inr (1, [.ref axej])), (axej, .inl (cy, 6, .inl fxej))] sz) [(ax, .inr (4, [.ref axr, .ref axt, .ref axm, .ref axb, .ref axe, .int vxk])), (axr, .inr (2, [.ref axrd, .int res.2.1])), (axrd, .inl (cy, 8, .inl res.2.2.1)), (axm, .inr (0, [.ref axmn, .ref axmg, .ref axmc])), (axmn, .inr (2, [.ref axmnd, .int res.2.2.2.1])), (axmnd, .inl (cy, 8, .inl res.2.2.2.2.1)), (axmg, .inr (2, [.ref axmgd, .int res.2.2.2.2.2.1])), (axmgd, .inl (cy, 8, .inl res.2.2.2.2.2.2.1)), (axmc, .inl (cy, 36, .inl res.2.2.2.2.2.2.2.1)), (axb, .inr (3, [.int res.2.2.2.2.2.2.2.2.1])), (axe, .inr (1, [.ref axej])), (axej, .inl (cy, 6, .inl res.2.2.2.2.2.2.2.2.2))]) (va_A [(ax, .inr (4, [.ref axr, .ref axt, .ref axm, .ref axb, .ref axe, .int vxk])), (axr, .inr (2, [.ref axrd, .int vxrs])), (axrd, .inl (cy, 8, .inl fxrd)), (axm, .inr (0, [.ref axmn, .ref axmg, .ref axmc])), (axmn, .inr (2, [.ref axmnd, .int vxmns])), (axmnd, .inl (cy, 8, .inl fxmnd)), (axmg, .inr (2, [.ref axmgd, .int vxmgs])), (axmgd, .inl (cy, 8, .inl fxmgd)), (axmc, .inl (cy, 36, .inl fxmc)), (axb, .inr (3, [.int vxbb])), (axe, .inr (1, [.ref axej])), (axej, .inl (cy, 6, .inl fxej))] sz)) 0 0 (va_A [(ax, .inr (4, [.ref axr, .ref axt, .ref axm, .ref axb, .ref axe, .int vxk])), (axr, .inr (2, [.ref axrd, .int vxrs])), (axrd, .inl (cy, 8, .inl fxrd)), (axm, .inr (0, [.ref axmn, .ref axmg, .ref axmc])), (axmn, .inr (2, [.ref axmnd, .int vxmns])), (axmnd, .inl (cy, 8, .inl fxmnd)), (axmg, .inr (2, [.ref axmgd, .int vxmgs])), (axmgd, .inl (cy, 8, .inl fxmgd)), (axmc, .inl (cy, 36, .inl fxmc)), (axb, .inr (3, [.int vxbb])), (axe, .inr (1, [.ref axej])), (axej, .inl (cy, 6, .inl fxej))] sz) := by
  refine Met.ofW (cc := cX4_mend) (maxL := 3) (ret := (some .int)) (by decide) rfl ?_
  intro p e s m args below meth c s₁ B hml hv
  obtain ⟨rfl, hsz, hP, hK, hD0, hN⟩ := hv
  have hx := B.exec
  have hb := B.bytes
  have hr := B.returns
  have hts := atoms_spec (ws := wsX4_mend) B.pre
  have hown : s.vm.findClass RX4 = some m.cls := findClass_of_methodNamed B.named
  have hlocks := B.notSynchronized
  subst hsz
  have hD := hD0.self (sz := s.heap.size)
  clear hD0
  generalize hAe : va_A [(ax, .inr (4, [.ref axr, .ref axt, .ref axm, .ref axb, .ref axe, .int vxk])), (axr, .inr (2, [.ref axrd, .int vxrs])), (axrd, .inl (cy, 8, .inl fxrd)), (axm, .inr (0, [.ref axmn, .ref axmg, .ref axmc])), (axmn, .inr (2, [.ref axmnd, .int vxmns])), (axmnd, .inl (cy, 8, .inl fxmnd)), (axmg, .inr (2, [.ref axmgd, .int vxmgs])), (axmgd, .inl (cy, 8, .inl fxmgd)), (axmc, .inl (cy, 36, .inl fxmc)), (axb, .inr (3, [.int vxbb])), (axe, .inr (1, [.ref axej])), (axej, .inl (cy, 6, .inl fxej))] s.heap.size = A at hD ⊢
  have hA : ∀ q : Nat, s.heap.size ≤ q → A q := fun q h => by rw [← hAe]; exact Or.inr h
  have hS : va_S A s.heap s.heap [] := va_S.rf
  have hl := lv_entry ([.ref ax, .int p0]) (n := 3) (Nat.le_of_ble_eq_true rfl)
  rw [lg_entry_eq]
  generalize (lg_sl ([.ref ax, .int p0]) ++ List.replicate (3 - (lg_sl ([.ref ax, .int p0])).length) Slot.unset).toArray = ls at hl ⊢
  replace hl : lv_has ls 3 [(0, .ref ax), (1, .int p0)] := hl
  replace hP : va_P (dC, dI) vwCl [(ax, .inr (4, [.ref axr, .ref axt, .ref axm, .ref axb, .ref axe, .int vxk])), (axr, .inr (2, [.ref axrd, .int vxrs])), (axrd, .inl (cy, 8, .inl fxrd)), (axm, .inr (0, [.ref axmn, .ref axmg, .ref axmc])), (axmn, .inr (2, [.ref axmnd, .int vxmns])), (axmnd, .inl (cy, 8, .inl fxmnd)), (axmg, .inr (2, [.ref axmgd, .int vxmgs])), (axmgd, .inl (cy, 8, .inl fxmgd)), (axmc, .inl (cy, 36, .inl fxmc)), (axb, .inr (3, [.int vxbb])), (axe, .inr (1, [.ref axej])), (axej, .inl (cy, 6, .inl fxej))] s.heap := hP
  obtain ⟨locs, hlocs⟩ : ∃ lc : List Loc, lc = [] := ⟨_, rfl⟩
  rw [← hlocs] at hS ⊢
  obtain ⟨H, hH⟩ : ∃ H : Heap, H = s.heap := ⟨_, rfl⟩
  have hP2 := hP; rw [← hH] at hP2
  have hS2 : va_S A s.heap H locs := by rw [hH]; exact hS
  suffices hgo : W p l e (headSpec wsX4_mend ({ frames := 5, cells := 0, slots := 0, locals := 118 })).room s m (([.ref ax, .int p0] : List Value).toArray) below meth c H locs 0 0 (MQ below (va_Qi (fun (r : Int32) (_ : Unit) => r = res.1) (QW (dC, dI) cy A [(ax, .inr (4, [.ref axr, .ref axt, .ref axm, .ref axb, .ref axe, .int vxk])), (axr, .inr (2, [.ref axrd, .int res.2.1])), (axrd, .inl (cy, 8, .inl res.2.2.1)), (axm, .inr (0, [.ref axmn, .ref axmg, .ref axmc])), (axmn, .inr (2, [.ref axmnd, .int res.2.2.2.1])), (axmnd, .inl (cy, 8, .inl res.2.2.2.2.1)), (axmg, .inr (2, [.ref axmgd, .int res.2.2.2.2.2.1])), (axmgd, .inl (cy, 8, .inl res.2.2.2.2.2.2.1)), (axmc, .inl (cy, 36, .inl res.2.2.2.2.2.2.2.1)), (axb, .inr (3, [.int res.2.2.2.2.2.2.2.2.1])), (axe, .inr (1, [.ref axej])), (axej, .inl (cy, 6, .inl res.2.2.2.2.2.2.2.2.2))]) A) (([.ref ax, .int p0] : List Value).toArray) s 0 0 A) (F0 m 0 ls []) by rw [hH] at hgo; exact hgo
  replace hP := hP2
  replace hS := hS2
  clear hP2 hS2
  have hin_X0 : ∀ w ∈ wsX00, w ∈ wsX4_mend := by decide +kernel
  have hin_X3 : ∀ w ∈ wsX30, w ∈ wsX4_mend := by decide +kernel
  have hin_X4 : ∀ w ∈ wsX40, w ∈ wsX4_mend := by decide +kernel
  have hf_10 := hts (.fieldLink RX4 10 "FewLooks" "row" "LFewLooks$Row;") (by decide +kernel)
  have hf_22 := hts (.fieldLink RX4 22 "FewLooks" "mender" "LFewLooks$Mender;") (by decide +kernel)
  have hf_29 := hts (.fieldLink RX4 29 "FewLooks" "table" "LFewLooks$Table;") (by decide +kernel)
  have hf_36 := hts (.fieldLink RX4 36 "FewLooks" "net" "LFewLooks$Net;") (by decide +kernel)
  unfold fX4_mend at h
  refine lv_iload_n hx hb dX4_mend_0 rfl (lv_at hl 1 rfl) ?_
  obtain ⟨r1, hr1, h⟩ := bd_some h
  have hFc := va_free (wc := []) hD hS hA [] rfl
  refine va_calli (va_runS (As := [.int p0]) (rest := []) ⟨hx, hb, hml, hown, hts⟩ (c_X4_isSubject l dC dI cy  H.size  p0 r1 hr1) (va_cwS 1 hts gX4_mend_X4_isSubject rfl rfl rfl (by decide +kernel) ⟨Nat.le_of_ble_eq_true rfl, Nat.le_of_ble_eq_true rfl⟩) ⟨PW_fb, PW_pre (hP.sub (ws' := []) [] rfl) hK (hD.sub [] (by decide) rfl) hN⟩ rfl rfl hl.1 rfl (lv_room (Nat.le_of_ble_eq_true rfl)) dX4_mend_1 ⟨Nat.zero_le _, Nat.zero_le _⟩) hS (fun q _ h => hFc q h) hFc (fun rz u t H locs ht hvm hw hB hz1 hk1 hS => ?_)
  obtain ⟨hP, hD⟩ := jn (wr := [(ax, .inr (4, [.ref axr, .ref axt, .ref axm, .ref axb, .ref axe, .int vxk])), (axr, .inr (2, [.ref axrd, .int vxrs])), (axrd, .inl (cy, 8, .inl fxrd)), (axm, .inr (0, [.ref axmn, .ref axmg, .ref axmc])), (axmn, .inr (2, [.ref axmnd, .int vxmns])), (axmnd, .inl (cy, 8, .inl fxmnd)), (axmg, .inr (2, [.ref axmgd, .int vxmgs])), (axmgd, .inl (cy, 8, .inl fxmgd)), (axmc, .inl (cy, 36, .inl fxmc)), (axb, .inr (3, [.int vxbb])), (axe, .inr (1, [.ref axej])), (axej, .inl (cy, 6, .inl fxej))]) (w1 := []) (ws' := [(ax, .inr (4, [.ref axr, .ref axt, .ref axm, .ref axb, .ref axe, .int vxk])), (axr, .inr (2, [.ref axrd, .int vxrs])), (axrd, .inl (cy, 8, .inl fxrd)), (axm, .inr (0, [.ref axmn, .ref axmg, .ref axmc])), (axmn, .inr (2, [.ref axmnd, .int vxmns])), (axmnd, .inl (cy, 8, .inl fxmnd)), (axmg, .inr (2, [.ref axmgd, .int vxmgs])), (axmgd, .inl (cy, 8, .inl fxmgd)), (axmc, .inl (cy, 36, .inl fxmc)), (axb, .inr (3, [.int vxbb])), (axe, .inr (1, [.ref axej])), (axej, .inl (cy, 6, .inl fxej))]) hP hD [] [0, 1, 2, 3, 4, 5, 6, 7, 8, 9, 10, 11] rfl rfl (by decide) (by decide) hk1 hFc hB ht [0, 1, 2, 3, 4, 5, 6, 7, 8, 9, 10, 11] rfl (by decide) rfl
  obtain ⟨hw, br1⟩ := hw
  replace hw := hw.symm
  subst hw
  clear hFc hB hk1 hz1 hvm
  refine lv_if_ne (tgt := 10) hx hb dX4_mend_4 (by decide) (fun c11 => ?_) (fun c11 => ?_)
  · rw [if_neg c11] at h
    refine lv_aload_n hx hb dX4_mend_10 rfl (lv_at hl 0 rfl) ?_
    refine lv_iload_n hx hb dX4_mend_11 rfl (lv_at hl 1 rfl) ?_
    obtain ⟨r2, hr2, h⟩ := bd_some h
    have hFc := va_free (wc := [(ax, .inr (4, [.ref axr, .ref axt, .ref axm, .ref axb, .ref axe, .int vxk])), (axr, .inr (2, [.ref axrd, .int vxrs])), (axrd, .inl (cy, 8, .inl fxrd)), (axm, .inr (0, [.ref axmn, .ref axmg, .ref axmc])), (axmn, .inr (2, [.ref axmnd, .int vxmns])), (axmnd, .inl (cy, 8, .inl fxmnd)), (axmg, .inr (2, [.ref axmgd, .int vxmgs])), (axmgd, .inl (cy, 8, .inl fxmgd)), (axmc, .inl (cy, 36, .inl fxmc)), (axb, .inr (3, [.int vxbb])), (axe, .inr (1, [.ref axej])), (axej, .inl (cy, 6, .inl fxej))]) hD hS hA [0, 1, 2, 3, 4, 5, 6, 7, 8, 9, 10, 11] rfl
    refine va_calli (va_runV (As := [.int p0]) (rest := []) ⟨hx, hb, hml, hown, hts⟩ (c_X4_howFar l dC dI cy ax axr axt axm axb axe axrd axmn axmg axmc axmnd axmgd axej H.size vxk vxrs fxrd vxmns fxmnd vxmgs fxmgd fxmc vxbb fxej p0 r2 hr2) (cwV 1 hts gX4_mend_X4_howFar rfl rfl rfl (by decide +kernel) ⟨Nat.le_of_ble_eq_true rfl, Nat.le_of_ble_eq_true rfl⟩) ⟨PW_fb, va_recv hK hP (ci := 4) (q0 := 0) rfl rfl, PW_pre (hP.sub (ws' := [(ax, .inr (4, [.ref axr, .ref axt, .ref axm, .ref axb, .ref axe, .int vxk])), (axr, .inr (2, [.ref axrd, .int vxrs])), (axrd, .inl (cy, 8, .inl fxrd)), (axm, .inr (0, [.ref axmn, .ref axmg, .ref axmc])), (axmn, .inr (2, [.ref axmnd, .int vxmns])), (axmnd, .inl (cy, 8, .inl fxmnd)), (axmg, .inr (2, [.ref axmgd, .int vxmgs])), (axmgd, .inl (cy, 8, .inl fxmgd)), (axmc, .inl (cy, 36, .inl fxmc)), (axb, .inr (3, [.int vxbb])), (axe, .inr (1, [.ref axej])), (axej, .inl (cy, 6, .inl fxej))]) [0, 1, 2, 3, 4, 5, 6, 7, 8, 9, 10, 11] rfl) hK (hD.sub [0, 1, 2, 3, 4, 5, 6, 7, 8, 9, 10, 11] (by decide) rfl) hN⟩ rfl rfl hl.1 rfl (lv_room (Nat.le_of_ble_eq_true rfl)) dX4_mend_12 ⟨Nat.zero_le _, Nat.zero_le _⟩) hS (fun q _ h => hFc q h) hFc (fun rz u t H locs ht hvm hw hB hz1 hk1 hS => ?_)
    obtain ⟨hP, hD⟩ := jn (wr := []) (w1 := [(ax, .inr (4, [.ref axr, .ref axt, .ref axm, .ref axb, .ref axe, .int vxk])), (axr, .inr (2, [.ref axrd, .int vxrs])), (axrd, .inl (cy, 8, .inl fxrd)), (axm, .inr (0, [.ref axmn, .ref axmg, .ref axmc])), (axmn, .inr (2, [.ref axmnd, .int r2.2.1])), (axmnd, .inl (cy, 8, .inl r2.2.2.1)), (axmg, .inr (2, [.ref axmgd, .int r2.2.2.2.1])), (axmgd, .inl (cy, 8, .inl r2.2.2.2.2.1)), (axmc, .inl (cy, 36, .inl r2.2.2.2.2.2)), (axb, .inr (3, [.int vxbb])), (axe, .inr (1, [.ref axej])), (axej, .inl (cy, 6, .inl fxej))]) (ws' := [(ax, .inr (4, [.ref axr, .ref axt, .ref axm, .ref axb, .ref axe, .int vxk])), (axr, .inr (2, [.ref axrd, .int vxrs])), (axrd, .inl (cy, 8, .inl fxrd)), (axm, .inr (0, [.ref axmn, .ref axmg, .ref axmc])), (axmn, .inr (2, [.ref axmnd, .int r2.2.1])), (axmnd, .inl (cy, 8, .inl r2.2.2.1)), (axmg, .inr (2, [.ref axmgd, .int r2.2.2.2.1])), (axmgd, .inl (cy, 8, .inl r2.2.2.2.2.1)), (axmc, .inl (cy, 36, .inl r2.2.2.2.2.2)), (axb, .inr (3, [.int vxbb])), (axe, .inr (1, [.ref axej])), (axej, .inl (cy, 6, .inl fxej))]) hP hD [0, 1, 2, 3, 4, 5, 6, 7, 8, 9, 10, 11] [] rfl rfl (by decide) (by decide) hk1 hFc hB ht [0, 1, 2, 3, 4, 5, 6, 7, 8, 9, 10, 11] rfl (by decide) rfl
    replace hw := hw.symm
    subst hw
    clear hFc hB hk1 hz1 hvm
    refine lv_istore_n (lv' := [(2, .int r2.1), (0, .ref ax), (1, .int p0)]) hx hb dX4_mend_15 rfl hl (by decide) rfl (fun ls hl => ?_)
    refine lv_iload_n hx hb dX4_mend_16 rfl (lv_at hl 2 rfl) ?_
    obtain ⟨r3, hr3, h⟩ := bd_some h
    have hFc := va_free (wc := []) hD hS hA [] rfl
    refine va_calli (va_runS (As := [.int p0]) (rest := []) ⟨hx, hb, hml, hown, hts⟩ (c_X4_isRow l dC dI cy  H.size  p0 r3 hr3) (va_cwS 1 hts gX4_mend_X4_isRow rfl rfl rfl (by decide +kernel) ⟨Nat.le_of_ble_eq_true rfl, Nat.le_of_ble_eq_true rfl⟩) ⟨PW_fb, PW_pre (hP.sub (ws' := []) [] rfl) hK (hD.sub [] (by decide) rfl) hN⟩ rfl rfl hl.1 rfl (lv_room (Nat.le_of_ble_eq_true rfl)) dX4_mend_17 ⟨Nat.zero_le _, Nat.zero_le _⟩) hS (fun q _ h => hFc q h) hFc (fun rz u t H locs ht hvm hw hB hz1 hk1 hS => ?_)
    obtain ⟨hP, hD⟩ := jn (wr := [(ax, .inr (4, [.ref axr, .ref axt, .ref axm, .ref axb, .ref axe, .int vxk])), (axr, .inr (2, [.ref axrd, .int vxrs])), (axrd, .inl (cy, 8, .inl fxrd)), (axm, .inr (0, [.ref axmn, .ref axmg, .ref axmc])), (axmn, .inr (2, [.ref axmnd, .int r2.2.1])), (axmnd, .inl (cy, 8, .inl r2.2.2.1)), (axmg, .inr (2, [.ref axmgd, .int r2.2.2.2.1])), (axmgd, .inl (cy, 8, .inl r2.2.2.2.2.1)), (axmc, .inl (cy, 36, .inl r2.2.2.2.2.2)), (axb, .inr (3, [.int vxbb])), (axe, .inr (1, [.ref axej])), (axej, .inl (cy, 6, .inl fxej))]) (w1 := []) (ws' := [(ax, .inr (4, [.ref axr, .ref axt, .ref axm, .ref axb, .ref axe, .int vxk])), (axr, .inr (2, [.ref axrd, .int vxrs])), (axrd, .inl (cy, 8, .inl fxrd)), (axm, .inr (0, [.ref axmn, .ref axmg, .ref axmc])), (axmn, .inr (2, [.ref axmnd, .int r2.2.1])), (axmnd, .inl (cy, 8, .inl r2.2.2.1)), (axmg, .inr (2, [.ref axmgd, .int r2.2.2.2.1])), (axmgd, .inl (cy, 8, .inl r2.2.2.2.2.1)), (axmc, .inl (cy, 36, .inl r2.2.2.2.2.2)), (axb, .inr (3, [.int vxbb])), (axe, .inr (1, [.ref axej])), (axej, .inl (cy, 6, .inl fxej))]) hP hD [] [0, 1, 2, 3, 4, 5, 6, 7, 8, 9, 10, 11] rfl rfl (by decide) (by decide) hk1 hFc hB ht [0, 1, 2, 3, 4, 5, 6, 7, 8, 9, 10, 11] rfl (by decide) rfl
    obtain ⟨hw, br3⟩ := hw
    replace hw := hw.symm
    subst hw
    clear hFc hB hk1 hz1 hvm
    refine lv_if_eq (tgt := 40) hx hb dX4_mend_20 (by decide) (fun c10 => ?_) (fun c10 => ?_)
    · rw [if_pos c10] at h
      refine lv_iload_n hx hb dX4_mend_40 rfl (lv_at hl 2 rfl) ?_
      refine lv_iconst (v := (4 : Int32)) hx hb dX4_mend_41 (by decide) ?_
      refine lv_icmp_ne (tgt := 65) hx hb dX4_mend_42 (by decide) (fun c8 => ?_) (fun c8 => ?_)
      · rw [if_neg c8] at h
        refine lv_aload_n hx hb dX4_mend_65 rfl (lv_at hl 1 rfl) ?_
        refine va_get (D := (dC, dI)) (ci := 4) (v := .ref axe) (C := RX4) (T := TX4) (N := 6) hx hb hts hin_X4 hown hK hP 0 rfl rfl 4 (by decide) (hf_36) (fun _ h9 => h9) rfl dX4_mend_66 ?_
        refine lv_aload_n hx hb dX4_mend_69 rfl (lv_at hl 1 rfl) ?_
        refine va_get (D := (dC, dI)) (ci := 4) (v := .ref axe) (C := RX4) (T := TX4) (N := 6) hx hb hts hin_X4 hown hK hP 0 rfl rfl 4 (by decide) (hf_36) (fun _ h9 => h9) rfl dX4_mend_70 ?_
        obtain ⟨r4, hr4, h⟩ := bd_some h
        have hFc := va_free (wc := [(axe, .inr (1, [.ref axej])), (axej, .inl (cy, 6, .inl fxej))]) hD hS hA [10, 11] rfl
        refine va_calli (va_runV (As := []) (rest := [.ref axe]) ⟨hx, hb, hml, hown, hts⟩ (c_X1_bestColouring l dC dI cy axe axej H.size fxej  r4 hr4) (cwV 0 hts gX4_mend_X1_bestColouring rfl rfl rfl (by decide +kernel) ⟨Nat.le_of_ble_eq_true rfl, Nat.le_of_ble_eq_true rfl⟩) ⟨PW_fb, va_recv hK hP (ci := 1) (q0 := 10) rfl rfl, PW_pre (hP.sub (ws' := [(axe, .inr (1, [.ref axej])), (axej, .inl (cy, 6, .inl fxej))]) [10, 11] rfl) hK (hD.sub [10, 11] (by decide) rfl) hN⟩ rfl rfl hl.1 rfl (lv_room (Nat.le_of_ble_eq_true rfl)) dX4_mend_73 ⟨Nat.zero_le _, Nat.zero_le _⟩) hS (fun q _ h => hFc q h) hFc (fun rz u t H locs ht hvm hw hB hz1 hk1 hS => ?_)
        obtain ⟨hP, hD⟩ := jn (wr := [(ax, .inr (4, [.ref axr, .ref axt, .ref axm, .ref axb, .ref axe, .int vxk])), (axr, .inr (2, [.ref axrd, .int vxrs])), (axrd, .inl (cy, 8, .inl fxrd)), (axm, .inr (0, [.ref axmn, .ref axmg, .ref axmc])), (axmn, .inr (2, [.ref axmnd, .int r2.2.1])), (axmnd, .inl (cy, 8, .inl r2.2.2.1)), (axmg, .inr (2, [.ref axmgd, .int r2.2.2.2.1])), (axmgd, .inl (cy, 8, .inl r2.2.2.2.2.1)), (axmc, .inl (cy, 36, .inl r2.2.2.2.2.2)), (axb, .inr (3, [.int vxbb]))]) (w1 := [(axe, .inr (1, [.ref axej])), (axej, .inl (cy, 6, .inl fxej))]) (ws' := [(ax, .inr (4, [.ref axr, .ref axt, .ref axm, .ref axb, .ref axe, .int vxk])), (axr, .inr (2, [.ref axrd, .int vxrs])), (axrd, .inl (cy, 8, .inl fxrd)), (axm, .inr (0, [.ref axmn, .ref axmg, .ref axmc])), (axmn, .inr (2, [.ref axmnd, .int r2.2.1])), (axmnd, .inl (cy, 8, .inl r2.2.2.1)), (axmg, .inr (2, [.ref axmgd, .int r2.2.2.2.1])), (axmgd, .inl (cy, 8, .inl r2.2.2.2.2.1)), (axmc, .inl (cy, 36, .inl r2.2.2.2.2.2)), (axb, .inr (3, [.int vxbb])), (axe, .inr (1, [.ref axej])), (axej, .inl (cy, 6, .inl fxej))]) hP hD [10, 11] [0, 1, 2, 3, 4, 5, 6, 7, 8, 9] rfl rfl (by decide) (by decide) hk1 hFc hB ht [0, 1, 2, 3, 4, 5, 6, 7, 8, 9, 10, 11] rfl (by decide) rfl
        replace hw := hw.symm
        subst hw
        clear hFc hB hk1 hz1 hvm
        obtain ⟨r5, hr5, h⟩ := bd_some h
        have hFc := va_free (wc := [(axe, .inr (1, [.ref axej])), (axej, .inl (cy, 6, .inl fxej))]) hD hS hA [10, 11] rfl
        refine va_callv (va_runV (As := [.int r4]) (rest := []) ⟨hx, hb, hml, hown, hts⟩ (c_X1_cutLikeLines l dC dI cy axe axej H.size fxej r4 r5 hr5) (cwV 1 hts gX4_mend_X1_cutLikeLines rfl rfl rfl (by decide +kernel) ⟨Nat.le_of_ble_eq_true rfl, Nat.le_of_ble_eq_true rfl⟩) ⟨PW_fb, va_recv hK hP (ci := 1) (q0 := 10) rfl rfl, PW_pre (hP.sub (ws' := [(axe, .inr (1, [.ref axej])), (axej, .inl (cy, 6, .inl fxej))]) [10, 11] rfl) hK (hD.sub [10, 11] (by decide) rfl) hN⟩ rfl rfl hl.1 rfl (lv_room (Nat.le_of_ble_eq_true rfl)) dX4_mend_76 ⟨Nat.zero_le _, Nat.zero_le _⟩) hS (fun q _ h => hFc q h) hFc (fun u t H locs ht hvm hw hB hz1 hk1 hS => ?_)
        obtain ⟨hP, hD⟩ := jn (wr := [(ax, .inr (4, [.ref axr, .ref axt, .ref axm, .ref axb, .ref axe, .int vxk])), (axr, .inr (2, [.ref axrd, .int vxrs])), (axrd, .inl (cy, 8, .inl fxrd)), (axm, .inr (0, [.ref axmn, .ref axmg, .ref axmc])), (axmn, .inr (2, [.ref axmnd, .int r2.2.1])), (axmnd, .inl (cy, 8, .inl r2.2.2.1)), (axmg, .inr (2, [.ref axmgd, .int r2.2.2.2.1])), (axmgd, .inl (cy, 8, .inl r2.2.2.2.2.1)), (axmc, .inl (cy, 36, .inl r2.2.2.2.2.2)), (axb, .inr (3, [.int vxbb]))]) (w1 := [(axe, .inr (1, [.ref axej])), (axej, .inl (cy, 6, .inl r5))]) (ws' := [(ax, .inr (4, [.ref axr, .ref axt, .ref axm, .ref axb, .ref axe, .int vxk])), (axr, .inr (2, [.ref axrd, .int vxrs])), (axrd, .inl (cy, 8, .inl fxrd)), (axm, .inr (0, [.ref axmn, .ref axmg, .ref axmc])), (axmn, .inr (2, [.ref axmnd, .int r2.2.1])), (axmnd, .inl (cy, 8, .inl r2.2.2.1)), (axmg, .inr (2, [.ref axmgd, .int r2.2.2.2.1])), (axmgd, .inl (cy, 8, .inl r2.2.2.2.2.1)), (axmc, .inl (cy, 36, .inl r2.2.2.2.2.2)), (axb, .inr (3, [.int vxbb])), (axe, .inr (1, [.ref axej])), (axej, .inl (cy, 6, .inl r5))]) hP hD [10, 11] [0, 1, 2, 3, 4, 5, 6, 7, 8, 9] rfl rfl (by decide) (by decide) hk1 hFc hB ht [0, 1, 2, 3, 4, 5, 6, 7, 8, 9, 10, 11] rfl (by decide) rfl
        clear hFc hB hk1 hz1 hvm
        refine lv_iload_n hx hb dX4_mend_79 rfl (lv_at hl 0 rfl) ?_
        have h0 := Option.some.inj h
        subst h0
        exact W.iret hx hb hr (fun t ht hW => ⟨⟨_, (), rfl, rfl, QW_mk hP hK hD ht hW⟩, hS.F ht⟩) hS.2.2 dX4_mend_80
      · rw [if_pos c8] at h
        refine lv_aload_n hx hb dX4_mend_45 rfl (lv_at hl 1 rfl) ?_
        refine va_get (D := (dC, dI)) (ci := 4) (v := .ref axb) (C := RX4) (T := TX4) (N := 6) hx hb hts hin_X4 hown hK hP 0 rfl rfl 3 (by decide) (hf_29) (fun _ h9 => h9) rfl dX4_mend_46 ?_
        refine lv_aload_n hx hb dX4_mend_49 rfl (lv_at hl 1 rfl) ?_
        refine va_get (D := (dC, dI)) (ci := 4) (v := .ref axb) (C := RX4) (T := TX4) (N := 6) hx hb hts hin_X4 hown hK hP 0 rfl rfl 3 (by decide) (hf_29) (fun _ h9 => h9) rfl dX4_mend_50 ?_
        obtain ⟨r6, hr6, h⟩ := bd_some h
        have hFc := va_free (wc := [(axb, .inr (3, [.int vxbb]))]) hD hS hA [9] rfl
        refine va_calli (va_runV (As := []) (rest := [.ref axb]) ⟨hx, hb, hml, hown, hts⟩ (c_X3_closest l dC dI cy axb H.size vxbb  r6 hr6) (cwV 0 hts gX4_mend_X3_closest rfl rfl rfl (by decide +kernel) ⟨Nat.le_of_ble_eq_true rfl, Nat.le_of_ble_eq_true rfl⟩) ⟨PW_fb, va_recv hK hP (ci := 3) (q0 := 9) rfl rfl, PW_pre (hP.sub (ws' := [(axb, .inr (3, [.int vxbb]))]) [9] rfl) hK (hD.sub [9] (by decide) rfl) hN⟩ rfl rfl hl.1 rfl (lv_room (Nat.le_of_ble_eq_true rfl)) dX4_mend_53 ⟨Nat.zero_le _, Nat.zero_le _⟩) hS (fun q _ h => hFc q h) hFc (fun rz u t H locs ht hvm hw hB hz1 hk1 hS => ?_)
        obtain ⟨hP, hD⟩ := jn (wr := [(ax, .inr (4, [.ref axr, .ref axt, .ref axm, .ref axb, .ref axe, .int vxk])), (axr, .inr (2, [.ref axrd, .int vxrs])), (axrd, .inl (cy, 8, .inl fxrd)), (axm, .inr (0, [.ref axmn, .ref axmg, .ref axmc])), (axmn, .inr (2, [.ref axmnd, .int r2.2.1])), (axmnd, .inl (cy, 8, .inl r2.2.2.1)), (axmg, .inr (2, [.ref axmgd, .int r2.2.2.2.1])), (axmgd, .inl (cy, 8, .inl r2.2.2.2.2.1)), (axmc, .inl (cy, 36, .inl r2.2.2.2.2.2)), (axe, .inr (1, [.ref axej])), (axej, .inl (cy, 6, .inl fxej))]) (w1 := [(axb, .inr (3, [.int vxbb]))]) (ws' := [(ax, .inr (4, [.ref axr, .ref axt, .ref axm, .ref axb, .ref axe, .int vxk])), (axr, .inr (2, [.ref axrd, .int vxrs])), (axrd, .inl (cy, 8, .inl fxrd)), (axm, .inr (0, [.ref axmn, .ref axmg, .ref axmc])), (axmn, .inr (2, [.ref axmnd, .int r2.2.1])), (axmnd, .inl (cy, 8, .inl r2.2.2.1)), (axmg, .inr (2, [.ref axmgd, .int r2.2.2.2.1])), (axmgd, .inl (cy, 8, .inl r2.2.2.2.2.1)), (axmc, .inl (cy, 36, .inl r2.2.2.2.2.2)), (axb, .inr (3, [.int vxbb])), (axe, .inr (1, [.ref axej])), (axej, .inl (cy, 6, .inl fxej))]) hP hD [9] [0, 1, 2, 3, 4, 5, 6, 7, 8, 10, 11] rfl rfl (by decide) (by decide) hk1 hFc hB ht [0, 1, 2, 3, 4, 5, 6, 7, 8, 11, 9, 10] rfl (by decide) rfl
        replace hw := hw.symm
        subst hw
        clear hFc hB hk1 hz1 hvm
        obtain ⟨r7, hr7, h⟩ := bd_some h
        have hFc := va_free (wc := []) hD hS hA [] rfl
        refine va_calli (va_runS (As := [.int r6]) (rest := [.ref axb]) ⟨hx, hb, hml, hown, hts⟩ (c_X3_parities l dC dI cy  H.size  r6 r7 hr7) (va_cwS 1 hts gX4_mend_X3_parities rfl rfl rfl (by decide +kernel) ⟨Nat.le_of_ble_eq_true rfl, Nat.le_of_ble_eq_true rfl⟩) ⟨PW_fb, PW_pre (hP.sub (ws' := []) [] rfl) hK (hD.sub [] (by decide) rfl) hN⟩ rfl rfl hl.1 rfl (lv_room (Nat.le_of_ble_eq_true rfl)) dX4_mend_56 ⟨Nat.zero_le _, Nat.zero_le _⟩) hS (fun q _ h => hFc q h) hFc (fun rz u t H locs ht hvm hw hB hz1 hk1 hS => ?_)
        obtain ⟨hP, hD⟩ := jn (wr := [(ax, .inr (4, [.ref axr, .ref axt, .ref axm, .ref axb, .ref axe, .int vxk])), (axr, .inr (2, [.ref axrd, .int vxrs])), (axrd, .inl (cy, 8, .inl fxrd)), (axm, .inr (0, [.ref axmn, .ref axmg, .ref axmc])), (axmn, .inr (2, [.ref axmnd, .int r2.2.1])), (axmnd, .inl (cy, 8, .inl r2.2.2.1)), (axmg, .inr (2, [.ref axmgd, .int r2.2.2.2.1])), (axmgd, .inl (cy, 8, .inl r2.2.2.2.2.1)), (axmc, .inl (cy, 36, .inl r2.2.2.2.2.2)), (axb, .inr (3, [.int vxbb])), (axe, .inr (1, [.ref axej])), (axej, .inl (cy, 6, .inl fxej))]) (w1 := []) (ws' := [(ax, .inr (4, [.ref axr, .ref axt, .ref axm, .ref axb, .ref axe, .int vxk])), (axr, .inr (2, [.ref axrd, .int vxrs])), (axrd, .inl (cy, 8, .inl fxrd)), (axm, .inr (0, [.ref axmn, .ref axmg, .ref axmc])), (axmn, .inr (2, [.ref axmnd, .int r2.2.1])), (axmnd, .inl (cy, 8, .inl r2.2.2.1)), (axmg, .inr (2, [.ref axmgd, .int r2.2.2.2.1])), (axmgd, .inl (cy, 8, .inl r2.2.2.2.2.1)), (axmc, .inl (cy, 36, .inl r2.2.2.2.2.2)), (axb, .inr (3, [.int vxbb])), (axe, .inr (1, [.ref axej])), (axej, .inl (cy, 6, .inl fxej))]) hP hD [] [0, 1, 2, 3, 4, 5, 6, 7, 8, 9, 10, 11] rfl rfl (by decide) (by decide) hk1 hFc hB ht [0, 1, 2, 3, 4, 5, 6, 7, 8, 9, 10, 11] rfl (by decide) rfl
        replace hw := hw.symm
        subst hw
        clear hFc hB hk1 hz1 hvm
        refine va_putN (D := (dC, dI)) (ci := 3) (v := .int r7) (ty := .int) (C := RX3) (T := TX3) (N := 1) hx hb hts hin_X3 tyX3 tyX3_ok nmX3 hown hK hP hD hS 9 rfl rfl 0 (by decide) (va_Nw.use rfl (hN.2.2.1)) (fun _ h9 => h9) rfl (by decide +kernel) rfl rfl (Nat.le_of_ble_eq_true rfl) dX4_mend_59 (fun H locs hP hD hS => ?_)
        replace hP : va_P (dC, dI) vwCl [(ax, .inr (4, [.ref axr, .ref axt, .ref axm, .ref axb, .ref axe, .int vxk])), (axr, .inr (2, [.ref axrd, .int vxrs])), (axrd, .inl (cy, 8, .inl fxrd)), (axm, .inr (0, [.ref axmn, .ref axmg, .ref axmc])), (axmn, .inr (2, [.ref axmnd, .int r2.2.1])), (axmnd, .inl (cy, 8, .inl r2.2.2.1)), (axmg, .inr (2, [.ref axmgd, .int r2.2.2.2.1])), (axmgd, .inl (cy, 8, .inl r2.2.2.2.2.1)), (axmc, .inl (cy, 36, .inl r2.2.2.2.2.2)), (axb, .inr (3, [.int r7])), (axe, .inr (1, [.ref axej])), (axej, .inl (cy, 6, .inl fxej))] H := hP
        replace hD : va_D A [(ax, .inr (4, [.ref axr, .ref axt, .ref axm, .ref axb, .ref axe, .int vxk])), (axr, .inr (2, [.ref axrd, .int vxrs])), (axrd, .inl (cy, 8, .inl fxrd)), (axm, .inr (0, [.ref axmn, .ref axmg, .ref axmc])), (axmn, .inr (2, [.ref axmnd, .int r2.2.1])), (axmnd, .inl (cy, 8, .inl r2.2.2.1)), (axmg, .inr (2, [.ref axmgd, .int r2.2.2.2.1])), (axmgd, .inl (cy, 8, .inl r2.2.2.2.2.1)), (axmc, .inl (cy, 36, .inl r2.2.2.2.2.2)), (axb, .inr (3, [.int r7])), (axe, .inr (1, [.ref axej])), (axej, .inl (cy, 6, .inl fxej))] := hD
        refine lv_goto (tgt := 79) hx hb dX4_mend_62 (by decide) ?_
        refine lv_iload_n hx hb dX4_mend_79 rfl (lv_at hl 0 rfl) ?_
        have h0 := Option.some.inj h
        subst h0
        exact W.iret hx hb hr (fun t ht hW => ⟨⟨_, (), rfl, rfl, QW_mk hP hK hD ht hW⟩, hS.F ht⟩) hS.2.2 dX4_mend_80
    · rw [if_neg c10] at h
      refine lv_aload_n hx hb dX4_mend_23 rfl (lv_at hl 1 rfl) ?_
      refine va_get (D := (dC, dI)) (ci := 4) (v := .ref axr) (C := RX4) (T := TX4) (N := 6) hx hb hts hin_X4 hown hK hP 0 rfl rfl 0 (by decide) (hf_10) (fun _ h9 => h9) rfl dX4_mend_24 ?_
      refine lv_aload_n hx hb dX4_mend_27 rfl (lv_at hl 1 rfl) ?_
      refine va_get (D := (dC, dI)) (ci := 4) (v := .ref axm) (C := RX4) (T := TX4) (N := 6) hx hb hts hin_X4 hown hK hP 0 rfl rfl 2 (by decide) (hf_22) (fun _ h9 => h9) rfl dX4_mend_28 ?_
      refine va_getN (D := (dC, dI)) (ci := 0) (v := .ref axmn) (C := RX0) (T := TX0) (N := 3) hx hb hts hin_X0 hown hK hP 3 rfl rfl 0 (by decide) (va_Nw.use rfl (hN.2.2.2.1)) (fun _ h9 => h9) rfl dX4_mend_31 ?_
      obtain ⟨r9, hr9, h⟩ := bd_some h
      have hFc := va_free (wc := [(axr, .inr (2, [.ref axrd, .int vxrs])), (axrd, .inl (cy, 8, .inl fxrd)), (axmn, .inr (2, [.ref axmnd, .int r2.2.1])), (axmnd, .inl (cy, 8, .inl r2.2.2.1))]) hD hS hA [1, 2, 4, 5] rfl
      refine va_callv (va_runV (As := [.ref axmn]) (rest := []) ⟨hx, hb, hml, hown, hts⟩ (c_X2_become l dC dI cy axr axrd axmn axmnd H.size vxrs fxrd r2.2.1 r2.2.2.1  r9 hr9) (cwV 1 hts gX4_mend_X2_become rfl rfl rfl (by decide +kernel) ⟨Nat.le_of_ble_eq_true rfl, Nat.le_of_ble_eq_true rfl⟩) ⟨PW_fb, va_recv hK hP (ci := 2) (q0 := 1) rfl rfl, PW_pre (hP.sub (ws' := [(axr, .inr (2, [.ref axrd, .int vxrs])), (axrd, .inl (cy, 8, .inl fxrd)), (axmn, .inr (2, [.ref axmnd, .int r2.2.1])), (axmnd, .inl (cy, 8, .inl r2.2.2.1))]) [1, 2, 4, 5] rfl) hK (hD.sub [1, 2, 4, 5] (by decide) rfl) hN⟩ rfl rfl hl.1 rfl (lv_room (Nat.le_of_ble_eq_true rfl)) dX4_mend_34 ⟨Nat.zero_le _, Nat.zero_le _⟩) hS (fun q _ h => hFc q h) hFc (fun u t H locs ht hvm hw hB hz1 hk1 hS => ?_)
      obtain ⟨hP, hD⟩ := jn (wr := [(ax, .inr (4, [.ref axr, .ref axt, .ref axm, .ref axb, .ref axe, .int vxk])), (axm, .inr (0, [.ref axmn, .ref axmg, .ref axmc])), (axmg, .inr (2, [.ref axmgd, .int r2.2.2.2.1])), (axmgd, .inl (cy, 8, .inl r2.2.2.2.2.1)), (axmc, .inl (cy, 36, .inl r2.2.2.2.2.2)), (axb, .inr (3, [.int vxbb])), (axe, .inr (1, [.ref axej])), (axej, .inl (cy, 6, .inl fxej))]) (w1 := [(axr, .inr (2, [.ref axrd, .int r9.1])), (axrd, .inl (cy, 8, .inl r9.2)), (axmn, .inr (2, [.ref axmnd, .int r2.2.1])), (axmnd, .inl (cy, 8, .inl r2.2.2.1))]) (ws' := [(ax, .inr (4, [.ref axr, .ref axt, .ref axm, .ref axb, .ref axe, .int vxk])), (axr, .inr (2, [.ref axrd, .int r9.1])), (axrd, .inl (cy, 8, .inl r9.2)), (axm, .inr (0, [.ref axmn, .ref axmg, .ref axmc])), (axmn, .inr (2, [.ref axmnd, .int r2.2.1])), (axmnd, .inl (cy, 8, .inl r2.2.2.1)), (axmg, .inr (2, [.ref axmgd, .int r2.2.2.2.1])), (axmgd, .inl (cy, 8, .inl r2.2.2.2.2.1)), (axmc, .inl (cy, 36, .inl r2.2.2.2.2.2)), (axb, .inr (3, [.int vxbb])), (axe, .inr (1, [.ref axej])), (axej, .inl (cy, 6, .inl fxej))]) hP hD [1, 2, 4, 5] [0, 3, 6, 7, 8, 9, 10, 11] rfl rfl (by decide) (by decide) hk1 hFc hB ht [0, 8, 9, 1, 10, 11, 2, 3, 4, 5, 6, 7] rfl (by decide) rfl
      clear hFc hB hk1 hz1 hvm
      refine lv_goto (tgt := 79) hx hb dX4_mend_37 (by decide) ?_
      refine lv_iload_n hx hb dX4_mend_79 rfl (lv_at hl 0 rfl) ?_
      have h0 := Option.some.inj h
      subst h0
      exact W.iret hx hb hr (fun t ht hW => ⟨⟨_, (), rfl, rfl, QW_mk hP hK hD ht hW⟩, hS.F ht⟩) hS.2.2 dX4_mend_80
  · rw [if_pos c11] at h
    refine lv_bipush (v := (-2 : Int32)) hx hb dX4_mend_7 (by decide) ?_
    have h0 := Option.some.inj h
    subst h0
    exact W.iret hx hb hr (fun t ht hW => ⟨⟨_, (), rfl, rfl, QW_mk hP hK hD ht hW⟩, hS.F ht⟩) hS.2.2 dX4_mend_9
