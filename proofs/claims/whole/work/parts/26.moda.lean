noncomputable def fX5_in  (p0 : Int32) (p1 : Int32) (p2 : Int32) : Option (Int32) := if p0 < p1 then (some (0 : Int32)) else (if p2 < p0 then (some (0 : Int32)) else (some (1 : Int32)))
set_option maxHeartbeats 4000000 in
set_option maxRecDepth 100000 in
theorem c_X5_in (l : Launch) (dC : Nat → ClassId) (dI : Nat → Nat → Nat) (cy : ClassId)  (sz : Nat)  (p0 : Int32) (p1 : Int32) (p2 : Int32) (res : Int32) (h : fX5_in p0 p1 p2 = some res) : Met l yX5_in wsX5_in ({ frames := 0, cells := 0, slots := 0, locals := 0 }) (va_Pc [.int p0, .int p1, .int p2] (PW (dC, dI) cy sz [])) (va_Qi (fun (r : Int32) (_ : Unit) => r = res ∧ bo r) (QW (dC, dI) cy (va_A [] sz) []) (va_A [] sz)) 0 0 (va_A [] sz) := by
  refine Met.ofW (cc := cX5_in) (maxL := 3) (ret := (some .boolean)) (by decide) rfl ?_
  intro p e s m args below meth c s₁ B hml hv
  obtain ⟨rfl, hsz, hP, hK, hD0, hN⟩ := hv
  have hx := B.exec
  have hb := B.bytes
  have hr := B.returns
  have hts := atoms_spec (ws := wsX5_in) B.pre
  have hown : s.vm.findClass RX5 = some m.cls := findClass_of_methodNamed B.named
  have hlocks := B.notSynchronized
  subst hsz
  have hD := hD0.self (sz := s.heap.size)
  clear hD0
  generalize hAe : va_A [] s.heap.size = A at hD ⊢
  have hA : ∀ q : Nat, s.heap.size ≤ q → A q := fun q h => by rw [← hAe]; exact Or.inr h
  have hS : va_S A s.heap s.heap [] := va_S.rf
  have hl := lv_entry ([.int p0, .int p1, .int p2]) (n := 3) (Nat.le_of_ble_eq_true rfl)
  rw [lg_entry_eq]
  generalize (lg_sl ([.int p0, .int p1, .int p2]) ++ List.replicate (3 - (lg_sl ([.int p0, .int p1, .int p2])).length) Slot.unset).toArray = ls at hl ⊢
  replace hl : lv_has ls 3 [(0, .int p0), (1, .int p1), (2, .int p2)] := hl
  replace hP : va_P (dC, dI) vwCl [] s.heap := hP
  obtain ⟨locs, hlocs⟩ : ∃ lc : List Loc, lc = [] := ⟨_, rfl⟩
  rw [← hlocs] at hS ⊢
  obtain ⟨H, hH⟩ : ∃ H : Heap, H = s.heap := ⟨_, rfl⟩
  have hP2 := hP; rw [← hH] at hP2
  have hS2 : va_S A s.heap H locs := by rw [hH]; exact hS
  suffices hgo : W p l e (headSpec wsX5_in ({ frames := 0, cells := 0, slots := 0, locals := 0 })).room s m (([.int p0, .int p1, .int p2] : List Value).toArray) below meth c H locs 0 0 (MQ below (va_Qi (fun (r : Int32) (_ : Unit) => r = res ∧ bo r) (QW (dC, dI) cy A []) A) (([.int p0, .int p1, .int p2] : List Value).toArray) s 0 0 A) (F0 m 0 ls []) by rw [hH] at hgo; exact hgo
  replace hP := hP2
  replace hS := hS2
  clear hP2 hS2
  unfold fX5_in at h
  refine lv_iload_n hx hb dX5_in_0 rfl (lv_at hl 0 rfl) ?_
  refine lv_iload_n hx hb dX5_in_1 rfl (lv_at hl 1 rfl) ?_
  refine lv_icmp_lt (tgt := 14) hx hb dX5_in_2 (by decide) (fun c2 => ?_) (fun c2 => ?_)
  · rw [if_pos c2] at h
    refine lv_iconst (v := (0 : Int32)) hx hb dX5_in_14 (by decide) ?_
    have h0 := Option.some.inj h
    subst h0
    exact W.zret (ty := .boolean) hx hb hr bo_0 (fun t ht hW => ⟨⟨_, (), rfl, ⟨rfl, bo_0⟩, QW_mk hP hK hD ht hW⟩, hS.F ht⟩) hS.2.2 dX5_in_15
  · rw [if_neg c2] at h
    refine lv_iload_n hx hb dX5_in_5 rfl (lv_at hl 0 rfl) ?_
    refine lv_iload_n hx hb dX5_in_6 rfl (lv_at hl 2 rfl) ?_
    refine lv_icmp_gt (tgt := 14) hx hb dX5_in_7 (by decide) (fun c1 => ?_) (fun c1 => ?_)
    · rw [if_pos c1] at h
      refine lv_iconst (v := (0 : Int32)) hx hb dX5_in_14 (by decide) ?_
      have h0 := Option.some.inj h
      subst h0
      exact W.zret (ty := .boolean) hx hb hr bo_0 (fun t ht hW => ⟨⟨_, (), rfl, ⟨rfl, bo_0⟩, QW_mk hP hK hD ht hW⟩, hS.F ht⟩) hS.2.2 dX5_in_15
    · rw [if_neg c1] at h
      refine lv_iconst (v := (1 : Int32)) hx hb dX5_in_10 (by decide) ?_
      refine lv_goto (tgt := 15) hx hb dX5_in_11 (by decide) ?_
      have h0 := Option.some.inj h
      subst h0
      exact W.zret (ty := .boolean) hx hb hr bo_1 (fun t ht hW => ⟨⟨_, (), rfl, ⟨rfl, bo_1⟩, QW_mk hP hK hD ht hW⟩, hS.F ht⟩) hS.2.2 dX5_in_15

noncomputable def fX5_ones_L4 (n : Nat) (l0 : Int32) (l1 : Int32) (l2 : Int32) : Option (Int32 × Int32) := match n with
  | 0 => none
  | n + 1 => if (8 : Int32) ≤ l2 then (some (l1, l2)) else (fX5_ones_L4 n l0 (l1 + ((l0 >>> (l2 &&& 31)) &&& (1 : Int32))) (l2 + (1 : Int32)))
theorem fX5_ones_L4_0 (l0 : Int32) (l1 : Int32) (l2 : Int32) : fX5_ones_L4 0 l0 l1 l2 = none := rfl
theorem fX5_ones_L4_s (n : Nat) (l0 : Int32) (l1 : Int32) (l2 : Int32) : fX5_ones_L4 (n + 1) l0 l1 l2 = if (8 : Int32) ≤ l2 then (some (l1, l2)) else (fX5_ones_L4 n l0 (l1 + ((l0 >>> (l2 &&& 31)) &&& (1 : Int32))) (l2 + (1 : Int32))) := rfl
noncomputable def fX5_ones  (p0 : Int32) : Option (Int32) := bd (fX5_ones_L4 FU p0 (0 : Int32) (0 : Int32)) fun q3 => some q3.1
set_option maxHeartbeats 4000000 in
set_option maxRecDepth 100000 in
theorem c_X5_ones (l : Launch) (dC : Nat → ClassId) (dI : Nat → Nat → Nat) (cy : ClassId)  (sz : Nat)  (p0 : Int32) (res : Int32) (h : fX5_ones p0 = some res) : Met l yX5_ones wsX5_ones ({ frames := 0, cells := 0, slots := 0, locals := 0 }) (va_Pc [.int p0] (PW (dC, dI) cy sz [])) (va_Qi (fun (r : Int32) (_ : Unit) => r = res) (QW (dC, dI) cy (va_A [] sz) []) (va_A [] sz)) 0 0 (va_A [] sz) := by
  refine Met.ofW (cc := cX5_ones) (maxL := 3) (ret := (some .int)) (by decide) rfl ?_
  intro p e s m args below meth c s₁ B hml hv
  obtain ⟨rfl, hsz, hP, hK, hD0, hN⟩ := hv
  have hx := B.exec
  have hb := B.bytes
  have hr := B.returns
  have hts := atoms_spec (ws := wsX5_ones) B.pre
  have hown : s.vm.findClass RX5 = some m.cls := findClass_of_methodNamed B.named
  have hlocks := B.notSynchronized
  subst hsz
  have hD := hD0.self (sz := s.heap.size)
  clear hD0
  generalize hAe : va_A [] s.heap.size = A at hD ⊢
  have hA : ∀ q : Nat, s.heap.size ≤ q → A q := fun q h => by rw [← hAe]; exact Or.inr h
  have hS : va_S A s.heap s.heap [] := va_S.rf
  have hl := lv_entry ([.int p0]) (n := 3) (Nat.le_of_ble_eq_true rfl)
  rw [lg_entry_eq]
  generalize (lg_sl ([.int p0]) ++ List.replicate (3 - (lg_sl ([.int p0])).length) Slot.unset).toArray = ls at hl ⊢
  replace hl : lv_has ls 3 [(0, .int p0)] := hl
  replace hP : va_P (dC, dI) vwCl [] s.heap := hP
  obtain ⟨locs, hlocs⟩ : ∃ lc : List Loc, lc = [] := ⟨_, rfl⟩
  rw [← hlocs] at hS ⊢
  obtain ⟨H, hH⟩ : ∃ H : Heap, H = s.heap := ⟨_, rfl⟩
  have hP2 := hP; rw [← hH] at hP2
  have hS2 : va_S A s.heap H locs := by rw [hH]; exact hS
  suffices hgo : W p l e (headSpec wsX5_ones ({ frames := 0, cells := 0, slots := 0, locals := 0 })).room s m (([.int p0] : List Value).toArray) below meth c H locs 0 0 (MQ below (va_Qi (fun (r : Int32) (_ : Unit) => r = res) (QW (dC, dI) cy A []) A) (([.int p0] : List Value).toArray) s 0 0 A) (F0 m 0 ls []) by rw [hH] at hgo; exact hgo
  replace hP := hP2
  replace hS := hS2
  clear hP2 hS2
  unfold fX5_ones at h
  refine lv_iconst (v := (0 : Int32)) hx hb dX5_ones_0 (by decide) ?_
  refine lv_istore_n (lv' := [(1, .int (0 : Int32)), (0, .int p0)]) hx hb dX5_ones_1 rfl hl (by decide) rfl (fun ls hl => ?_)
  refine lv_iconst (v := (0 : Int32)) hx hb dX5_ones_2 (by decide) ?_
  refine lv_istore_n (lv' := [(2, .int (0 : Int32)), (1, .int (0 : Int32)), (0, .int p0)]) hx hb dX5_ones_3 rfl hl (by decide) rfl (fun ls hl => ?_)
  have L4_1 : ∀ (n : Nat) (l0 : Int32) (l1 : Int32) (l2 : Int32) (rs : (Int32 × Int32)) (H : Heap) (locs : List Loc) (ls : Array Slot), fX5_ones_L4 n l0 l1 l2 = some rs → lv_has ls 3 [(0, .int l0), (1, .int l1), (2, .int l2)] → va_P (dC, dI) vwCl [] H → va_D A [] → va_S A s.heap H locs → (∀ (H : Heap) (locs : List Loc) (ls : Array Slot), lv_has ls 3 [(0, .int l0), (1, .int rs.1), (2, .int rs.2)] → va_P (dC, dI) vwCl [] H → va_D A [] → va_S A s.heap H locs → W p l e (headSpec wsX5_ones ({ frames := 0, cells := 0, slots := 0, locals := 0 })).room s m (([.int p0] : List Value).toArray) below meth c H locs 0 0 (MQ below (va_Qi (fun (r : Int32) (_ : Unit) => r = res) (QW (dC, dI) cy A []) A) (([.int p0] : List Value).toArray) s 0 0 A) (F0 m 24 ls [])) → W p l e (headSpec wsX5_ones ({ frames := 0, cells := 0, slots := 0, locals := 0 })).room s m (([.int p0] : List Value).toArray) below meth c H locs 0 0 (MQ below (va_Qi (fun (r : Int32) (_ : Unit) => r = res) (QW (dC, dI) cy A []) A) (([.int p0] : List Value).toArray) s 0 0 A) (F0 m 4 ls []) := by
    intro n
    induction n with
    | zero =>
      intro l0 l1 l2 rs H locs ls h
      rw [fX5_ones_L4_0] at h
      cases h
    | succ n ih =>
      intro l0 l1 l2 rs H locs ls h hl hP hD hS K
      rw [fX5_ones_L4_s] at h
      refine lv_iload_n hx hb dX5_ones_4 rfl (lv_at hl 2 rfl) ?_
      refine lv_bipush (v := (8 : Int32)) hx hb dX5_ones_5 (by decide) ?_
      refine lv_icmp_ge (tgt := 24) hx hb dX5_ones_7 (by decide) (fun c1 => ?_) (fun c1 => ?_)
      · rw [if_pos c1] at h
        have h0 := Option.some.inj h
        subst h0
        exact K H locs ls (lv_sub hl [0, 1, 2] rfl) hP hD hS
      · rw [if_neg c1] at h
        refine lv_iload_n hx hb dX5_ones_10 rfl (lv_at hl 1 rfl) ?_
        refine lv_iload_n hx hb dX5_ones_11 rfl (lv_at hl 0 rfl) ?_
        refine lv_iload_n hx hb dX5_ones_12 rfl (lv_at hl 2 rfl) ?_
        refine lv_ishr hx hb dX5_ones_13 ?_
        refine lv_iconst (v := (1 : Int32)) hx hb dX5_ones_14 (by decide) ?_
        refine lv_iand hx hb dX5_ones_15 ?_
        refine lv_iadd hx hb dX5_ones_16 ?_
        refine lv_istore_n (lv' := [(1, .int (l1 + ((l0 >>> (l2 &&& 31)) &&& (1 : Int32)))), (0, .int l0), (2, .int l2)]) hx hb dX5_ones_17 rfl hl (by decide) rfl (fun ls hl => ?_)
        refine lv_iinc (v := l2 + (1 : Int32)) (lv' := [(2, .int (l2 + (1 : Int32))), (1, .int (l1 + ((l0 >>> (l2 &&& 31)) &&& (1 : Int32)))), (0, .int l0)]) hx hb dX5_ones_18 hl (k := 2) rfl rfl (by decide) rfl (fun ls hl => ?_)
        refine lv_goto (tgt := 4) hx hb dX5_ones_21 (by decide) ?_
        exact ih l0 (l1 + ((l0 >>> (l2 &&& 31)) &&& (1 : Int32))) (l2 + (1 : Int32)) rs H locs ls h (lv_sub hl [2, 1, 0] rfl) hP hD hS K
  obtain ⟨q3, hq3, h⟩ := bd_some h
  refine L4_1 FU p0 (0 : Int32) (0 : Int32) q3 H locs ls hq3 (lv_sub hl [2, 1, 0] rfl) hP hD hS (fun H locs ls hl hP hD hS => ?_)
  refine lv_iload_n hx hb dX5_ones_24 rfl (lv_at hl 1 rfl) ?_
  have h0 := Option.some.inj h
  subst h0
  exact W.iret hx hb hr (fun t ht hW => ⟨⟨_, (), rfl, rfl, QW_mk hP hK hD ht hW⟩, hS.F ht⟩) hS.2.2 dX5_ones_25

noncomputable def fX5_isSubject  (p0 : Int32) : Option (Int32) := bd (fX5_in p0 (0 : Int32) (5 : Int32)) fun r1 => some r1
set_option maxHeartbeats 4000000 in
set_option maxRecDepth 100000 in
theorem c_X5_isSubject (l : Launch) (dC : Nat → ClassId) (dI : Nat → Nat → Nat) (cy : ClassId)  (sz : Nat)  (p0 : Int32) (res : Int32) (h : fX5_isSubject p0 = some res) : Met l yX5_isSubject wsX5_isSubject ({ frames := 1, cells := 0, slots := 0, locals := 22 }) (va_Pc [.int p0] (PW (dC, dI) cy sz [])) (va_Qi (fun (r : Int32) (_ : Unit) => r = res ∧ bo r) (QW (dC, dI) cy (va_A [] sz) []) (va_A [] sz)) 0 0 (va_A [] sz) := by
  refine Met.ofW (cc := cX5_isSubject) (maxL := 1) (ret := (some .boolean)) (by decide) rfl ?_
  intro p e s m args below meth c s₁ B hml hv
  obtain ⟨rfl, hsz, hP, hK, hD0, hN⟩ := hv
  have hx := B.exec
  have hb := B.bytes
  have hr := B.returns
  have hts := atoms_spec (ws := wsX5_isSubject) B.pre
  have hown : s.vm.findClass RX5 = some m.cls := findClass_of_methodNamed B.named
  have hlocks := B.notSynchronized
  subst hsz
  have hD := hD0.self (sz := s.heap.size)
  clear hD0
  generalize hAe : va_A [] s.heap.size = A at hD ⊢
  have hA : ∀ q : Nat, s.heap.size ≤ q → A q := fun q h => by rw [← hAe]; exact Or.inr h
  have hS : va_S A s.heap s.heap [] := va_S.rf
  have hl := lv_entry ([.int p0]) (n := 1) (Nat.le_of_ble_eq_true rfl)
  rw [lg_entry_eq]
  generalize (lg_sl ([.int p0]) ++ List.replicate (1 - (lg_sl ([.int p0])).length) Slot.unset).toArray = ls at hl ⊢
  replace hl : lv_has ls 1 [(0, .int p0)] := hl
  replace hP : va_P (dC, dI) vwCl [] s.heap := hP
  obtain ⟨locs, hlocs⟩ : ∃ lc : List Loc, lc = [] := ⟨_, rfl⟩
  rw [← hlocs] at hS ⊢
  obtain ⟨H, hH⟩ : ∃ H : Heap, H = s.heap := ⟨_, rfl⟩
  have hP2 := hP; rw [← hH] at hP2
  have hS2 : va_S A s.heap H locs := by rw [hH]; exact hS
  suffices hgo : W p l e (headSpec wsX5_isSubject ({ frames := 1, cells := 0, slots := 0, locals := 22 })).room s m (([.int p0] : List Value).toArray) below meth c H locs 0 0 (MQ below (va_Qi (fun (r : Int32) (_ : Unit) => r = res ∧ bo r) (QW (dC, dI) cy A []) A) (([.int p0] : List Value).toArray) s 0 0 A) (F0 m 0 ls []) by rw [hH] at hgo; exact hgo
  replace hP := hP2
  replace hS := hS2
  clear hP2 hS2
  unfold fX5_isSubject at h
  refine lv_iload_n hx hb dX5_isSubject_0 rfl (lv_at hl 0 rfl) ?_
  refine lv_iconst (v := (0 : Int32)) hx hb dX5_isSubject_1 (by decide) ?_
  refine lv_iconst (v := (5 : Int32)) hx hb dX5_isSubject_2 (by decide) ?_
  obtain ⟨r1, hr1, h⟩ := bd_some h
  have hFc := va_free (wc := []) hD hS hA [] rfl
  refine va_calli (va_runS (As := [.int p0, .int (0 : Int32), .int (5 : Int32)]) (rest := []) ⟨hx, hb, hml, hown, hts⟩ (c_X5_in l dC dI cy  H.size  p0 (0 : Int32) (5 : Int32) r1 hr1) (va_cwS 3 hts gX5_isSubject_X5_in rfl rfl rfl (by decide +kernel) ⟨Nat.le_of_ble_eq_true rfl, Nat.le_of_ble_eq_true rfl⟩) ⟨PW_fb, PW_pre (hP.sub (ws' := []) [] rfl) hK (hD.sub [] (by decide) rfl) hN⟩ rfl rfl hl.1 rfl (lv_room (Nat.le_of_ble_eq_true rfl)) dX5_isSubject_3 ⟨Nat.zero_le _, Nat.zero_le _⟩) hS (fun q _ h => hFc q h) hFc (fun rz u t H locs ht hvm hw hB hz1 hk1 hS => ?_)
  obtain ⟨hP, hD⟩ := jn (wr := []) (w1 := []) (ws' := []) hP hD [] [] rfl rfl (by decide) (by decide) hk1 hFc hB ht [] rfl (by decide) rfl
  obtain ⟨hw, br1⟩ := hw
  replace hw := hw.symm
  subst hw
  clear hFc hB hk1 hz1 hvm
  have h0 := Option.some.inj h
  subst h0
  exact W.zret (ty := .boolean) hx hb hr br1 (fun t ht hW => ⟨⟨_, (), rfl, ⟨rfl, br1⟩, QW_mk hP hK hD ht hW⟩, hS.F ht⟩) hS.2.2 dX5_isSubject_6

noncomputable def fX5_isPlace (vxn : Int32) (p0 : Int32) : Option (Int32) := bd (fX5_in p0 (0 : Int32) (vxn - (1 : Int32))) fun r1 => some r1
set_option maxHeartbeats 4000000 in
set_option maxRecDepth 100000 in
theorem c_X5_isPlace (l : Launch) (dC : Nat → ClassId) (dI : Nat → Nat → Nat) (cy : ClassId) (ax axr axb axj axi axu : Nat) (sz : Nat) (vxn : Int32) (vxk : Int32) (vxA : Int64) (vxB : Int64) (vxC : Int64) (vxE : Int64) (p0 : Int32) (res : Int32) (h : fX5_isPlace vxn p0 = some res) : Met l yX5_isPlace wsX5_isPlace ({ frames := 1, cells := 0, slots := 0, locals := 22 }) (va_Pc [.ref ax, .int p0] (PW (dC, dI) cy sz [(ax, .inr (5, [.int vxn, .ref axr, .ref axb, .ref axj, .int vxk, .ref axi, .ref axu, .long vxA, .long vxB, .long vxC, .long vxE]))])) (va_Qi (fun (r : Int32) (_ : Unit) => r = res ∧ bo r) (QW (dC, dI) cy (va_A [(ax, .inr (5, [.int vxn, .ref axr, .ref axb, .ref axj, .int vxk, .ref axi, .ref axu, .long vxA, .long vxB, .long vxC, .long vxE]))] sz) [(ax, .inr (5, [.int vxn, .ref axr, .ref axb, .ref axj, .int vxk, .ref axi, .ref axu, .long vxA, .long vxB, .long vxC, .long vxE]))]) (va_A [(ax, .inr (5, [.int vxn, .ref axr, .ref axb, .ref axj, .int vxk, .ref axi, .ref axu, .long vxA, .long vxB, .long vxC, .long vxE]))] sz)) 0 0 (va_A [(ax, .inr (5, [.int vxn, .ref axr, .ref axb, .ref axj, .int vxk, .ref axi, .ref axu, .long vxA, .long vxB, .long vxC, .long vxE]))] sz) := by
  refine Met.ofW (cc := cX5_isPlace) (maxL := 2) (ret := (some .boolean)) (by decide) rfl ?_
  intro p e s m args below meth c s₁ B hml hv
  obtain ⟨rfl, hsz, hP, hK, hD0, hN⟩ := hv
  have hx := B.exec
  have hb := B.bytes
  have hr := B.returns
  have hts := atoms_spec (ws := wsX5_isPlace) B.pre
  have hown : s.vm.findClass RX5 = some m.cls := findClass_of_methodNamed B.named
  have hlocks := B.notSynchronized
  subst hsz
  have hD := hD0.self (sz := s.heap.size)
  clear hD0
  generalize hAe : va_A [(ax, .inr (5, [.int vxn, .ref axr, .ref axb, .ref axj, .int vxk, .ref axi, .ref axu, .long vxA, .long vxB, .long vxC, .long vxE]))] s.heap.size = A at hD ⊢
  have hA : ∀ q : Nat, s.heap.size ≤ q → A q := fun q h => by rw [← hAe]; exact Or.inr h
  have hS : va_S A s.heap s.heap [] := va_S.rf
  have hl := lv_entry ([.ref ax, .int p0]) (n := 2) (Nat.le_of_ble_eq_true rfl)
  rw [lg_entry_eq]
  generalize (lg_sl ([.ref ax, .int p0]) ++ List.replicate (2 - (lg_sl ([.ref ax, .int p0])).length) Slot.unset).toArray = ls at hl ⊢
  replace hl : lv_has ls 2 [(0, .ref ax), (1, .int p0)] := hl
  replace hP : va_P (dC, dI) vwCl [(ax, .inr (5, [.int vxn, .ref axr, .ref axb, .ref axj, .int vxk, .ref axi, .ref axu, .long vxA, .long vxB, .long vxC, .long vxE]))] s.heap := hP
  obtain ⟨locs, hlocs⟩ : ∃ lc : List Loc, lc = [] := ⟨_, rfl⟩
  rw [← hlocs] at hS ⊢
  obtain ⟨H, hH⟩ : ∃ H : Heap, H = s.heap := ⟨_, rfl⟩
  have hP2 := hP; rw [← hH] at hP2
  have hS2 : va_S A s.heap H locs := by rw [hH]; exact hS
  suffices hgo : W p l e (headSpec wsX5_isPlace ({ frames := 1, cells := 0, slots := 0, locals := 22 })).room s m (([.ref ax, .int p0] : List Value).toArray) below meth c H locs 0 0 (MQ below (va_Qi (fun (r : Int32) (_ : Unit) => r = res ∧ bo r) (QW (dC, dI) cy A [(ax, .inr (5, [.int vxn, .ref axr, .ref axb, .ref axj, .int vxk, .ref axi, .ref axu, .long vxA, .long vxB, .long vxC, .long vxE]))]) A) (([.ref ax, .int p0] : List Value).toArray) s 0 0 A) (F0 m 0 ls []) by rw [hH] at hgo; exact hgo
  replace hP := hP2
  replace hS := hS2
  clear hP2 hS2
  have hin_X5 : ∀ w ∈ wsX50, w ∈ wsX5_isPlace := by decide +kernel
  have hf_7 := hts (.fieldLink RX5 7 "FewLooksModel" "n" "I") (by decide +kernel)
  unfold fX5_isPlace at h
  refine lv_iload_n hx hb dX5_isPlace_0 rfl (lv_at hl 1 rfl) ?_
  refine lv_iconst (v := (0 : Int32)) hx hb dX5_isPlace_1 (by decide) ?_
  refine lv_aload_n hx hb dX5_isPlace_2 rfl (lv_at hl 0 rfl) ?_
  refine va_get (D := (dC, dI)) (ci := 5) (v := .int vxn) (C := RX5) (T := TX5) (N := 11) hx hb hts hin_X5 hown hK hP 0 rfl rfl 0 (by decide) (hf_7) (fun _ h9 => h9) rfl dX5_isPlace_3 ?_
  refine lv_iconst (v := (1 : Int32)) hx hb dX5_isPlace_6 (by decide) ?_
  refine lv_isub hx hb dX5_isPlace_7 ?_
  obtain ⟨r1, hr1, h⟩ := bd_some h
  have hFc := va_free (wc := []) hD hS hA [] rfl
  refine va_calli (va_runS (As := [.int p0, .int (0 : Int32), .int (vxn - (1 : Int32))]) (rest := []) ⟨hx, hb, hml, hown, hts⟩ (c_X5_in l dC dI cy  H.size  p0 (0 : Int32) (vxn - (1 : Int32)) r1 hr1) (va_cwS 3 hts gX5_isPlace_X5_in rfl rfl rfl (by decide +kernel) ⟨Nat.le_of_ble_eq_true rfl, Nat.le_of_ble_eq_true rfl⟩) ⟨PW_fb, PW_pre (hP.sub (ws' := []) [] rfl) hK (hD.sub [] (by decide) rfl) hN⟩ rfl rfl hl.1 rfl (lv_room (Nat.le_of_ble_eq_true rfl)) dX5_isPlace_8 ⟨Nat.zero_le _, Nat.zero_le _⟩) hS (fun q _ h => hFc q h) hFc (fun rz u t H locs ht hvm hw hB hz1 hk1 hS => ?_)
  obtain ⟨hP, hD⟩ := jn (wr := [(ax, .inr (5, [.int vxn, .ref axr, .ref axb, .ref axj, .int vxk, .ref axi, .ref axu, .long vxA, .long vxB, .long vxC, .long vxE]))]) (w1 := []) (ws' := [(ax, .inr (5, [.int vxn, .ref axr, .ref axb, .ref axj, .int vxk, .ref axi, .ref axu, .long vxA, .long vxB, .long vxC, .long vxE]))]) hP hD [] [0] rfl rfl (by decide) (by decide) hk1 hFc hB ht [0] rfl (by decide) rfl
  obtain ⟨hw, br1⟩ := hw
  replace hw := hw.symm
  subst hw
  clear hFc hB hk1 hz1 hvm
  have h0 := Option.some.inj h
  subst h0
  exact W.zret (ty := .boolean) hx hb hr br1 (fun t ht hW => ⟨⟨_, (), rfl, ⟨rfl, br1⟩, QW_mk hP hK hD ht hW⟩, hS.F ht⟩) hS.2.2 dX5_isPlace_11

noncomputable def fX5_isEight  (p0 : Int32) : Option (Int32) := bd (fX5_in p0 (0 : Int32) (7 : Int32)) fun r1 => some r1
set_option maxHeartbeats 4000000 in
set_option maxRecDepth 100000 in
theorem c_X5_isEight (l : Launch) (dC : Nat → ClassId) (dI : Nat → Nat → Nat) (cy : ClassId)  (sz : Nat)  (p0 : Int32) (res : Int32) (h : fX5_isEight p0 = some res) : Met l yX5_isEight wsX5_isEight ({ frames := 1, cells := 0, slots := 0, locals := 22 }) (va_Pc [.int p0] (PW (dC, dI) cy sz [])) (va_Qi (fun (r : Int32) (_ : Unit) => r = res ∧ bo r) (QW (dC, dI) cy (va_A [] sz) []) (va_A [] sz)) 0 0 (va_A [] sz) := by
  refine Met.ofW (cc := cX5_isEight) (maxL := 1) (ret := (some .boolean)) (by decide) rfl ?_
  intro p e s m args below meth c s₁ B hml hv
  obtain ⟨rfl, hsz, hP, hK, hD0, hN⟩ := hv
  have hx := B.exec
  have hb := B.bytes
  have hr := B.returns
  have hts := atoms_spec (ws := wsX5_isEight) B.pre
  have hown : s.vm.findClass RX5 = some m.cls := findClass_of_methodNamed B.named
  have hlocks := B.notSynchronized
  subst hsz
  have hD := hD0.self (sz := s.heap.size)
  clear hD0
  generalize hAe : va_A [] s.heap.size = A at hD ⊢
  have hA : ∀ q : Nat, s.heap.size ≤ q → A q := fun q h => by rw [← hAe]; exact Or.inr h
  have hS : va_S A s.heap s.heap [] := va_S.rf
  have hl := lv_entry ([.int p0]) (n := 1) (Nat.le_of_ble_eq_true rfl)
  rw [lg_entry_eq]
  generalize (lg_sl ([.int p0]) ++ List.replicate (1 - (lg_sl ([.int p0])).length) Slot.unset).toArray = ls at hl ⊢
  replace hl : lv_has ls 1 [(0, .int p0)] := hl
  replace hP : va_P (dC, dI) vwCl [] s.heap := hP
  obtain ⟨locs, hlocs⟩ : ∃ lc : List Loc, lc = [] := ⟨_, rfl⟩
  rw [← hlocs] at hS ⊢
  obtain ⟨H, hH⟩ : ∃ H : Heap, H = s.heap := ⟨_, rfl⟩
  have hP2 := hP; rw [← hH] at hP2
  have hS2 : va_S A s.heap H locs := by rw [hH]; exact hS
  suffices hgo : W p l e (headSpec wsX5_isEight ({ frames := 1, cells := 0, slots := 0, locals := 22 })).room s m (([.int p0] : List Value).toArray) below meth c H locs 0 0 (MQ below (va_Qi (fun (r : Int32) (_ : Unit) => r = res ∧ bo r) (QW (dC, dI) cy A []) A) (([.int p0] : List Value).toArray) s 0 0 A) (F0 m 0 ls []) by rw [hH] at hgo; exact hgo
  replace hP := hP2
  replace hS := hS2
  clear hP2 hS2
  unfold fX5_isEight at h
  refine lv_iload_n hx hb dX5_isEight_0 rfl (lv_at hl 0 rfl) ?_
  refine lv_iconst (v := (0 : Int32)) hx hb dX5_isEight_1 (by decide) ?_
  refine lv_bipush (v := (7 : Int32)) hx hb dX5_isEight_2 (by decide) ?_
  obtain ⟨r1, hr1, h⟩ := bd_some h
  have hFc := va_free (wc := []) hD hS hA [] rfl
  refine va_calli (va_runS (As := [.int p0, .int (0 : Int32), .int (7 : Int32)]) (rest := []) ⟨hx, hb, hml, hown, hts⟩ (c_X5_in l dC dI cy  H.size  p0 (0 : Int32) (7 : Int32) r1 hr1) (va_cwS 3 hts gX5_isEight_X5_in rfl rfl rfl (by decide +kernel) ⟨Nat.le_of_ble_eq_true rfl, Nat.le_of_ble_eq_true rfl⟩) ⟨PW_fb, PW_pre (hP.sub (ws' := []) [] rfl) hK (hD.sub [] (by decide) rfl) hN⟩ rfl rfl hl.1 rfl (lv_room (Nat.le_of_ble_eq_true rfl)) dX5_isEight_4 ⟨Nat.zero_le _, Nat.zero_le _⟩) hS (fun q _ h => hFc q h) hFc (fun rz u t H locs ht hvm hw hB hz1 hk1 hS => ?_)
  obtain ⟨hP, hD⟩ := jn (wr := []) (w1 := []) (ws' := []) hP hD [] [] rfl rfl (by decide) (by decide) hk1 hFc hB ht [] rfl (by decide) rfl
  obtain ⟨hw, br1⟩ := hw
  replace hw := hw.symm
  subst hw
  clear hFc hB hk1 hz1 hvm
  have h0 := Option.some.inj h
  subst h0
  exact W.zret (ty := .boolean) hx hb hr br1 (fun t ht hW => ⟨⟨_, (), rfl, ⟨rfl, br1⟩, QW_mk hP hK hD ht hW⟩, hS.F ht⟩) hS.2.2 dX5_isEight_7

noncomputable def fX5_isBit  (p0 : Int32) : Option (Int32) := bd (fX5_in p0 (0 : Int32) (1 : Int32)) fun r1 => some r1
set_option maxHeartbeats 4000000 in
set_option maxRecDepth 100000 in
theorem c_X5_isBit (l : Launch) (dC : Nat → ClassId) (dI : Nat → Nat → Nat) (cy : ClassId)  (sz : Nat)  (p0 : Int32) (res : Int32) (h : fX5_isBit p0 = some res) : Met l yX5_isBit wsX5_isBit ({ frames := 1, cells := 0, slots := 0, locals := 22 }) (va_Pc [.int p0] (PW (dC, dI) cy sz [])) (va_Qi (fun (r : Int32) (_ : Unit) => r = res ∧ bo r) (QW (dC, dI) cy (va_A [] sz) []) (va_A [] sz)) 0 0 (va_A [] sz) := by
  refine Met.ofW (cc := cX5_isBit) (maxL := 1) (ret := (some .boolean)) (by decide) rfl ?_
  intro p e s m args below meth c s₁ B hml hv
  obtain ⟨rfl, hsz, hP, hK, hD0, hN⟩ := hv
  have hx := B.exec
  have hb := B.bytes
  have hr := B.returns
  have hts := atoms_spec (ws := wsX5_isBit) B.pre
  have hown : s.vm.findClass RX5 = some m.cls := findClass_of_methodNamed B.named
  have hlocks := B.notSynchronized
  subst hsz
  have hD := hD0.self (sz := s.heap.size)
  clear hD0
  generalize hAe : va_A [] s.heap.size = A at hD ⊢
  have hA : ∀ q : Nat, s.heap.size ≤ q → A q := fun q h => by rw [← hAe]; exact Or.inr h
  have hS : va_S A s.heap s.heap [] := va_S.rf
  have hl := lv_entry ([.int p0]) (n := 1) (Nat.le_of_ble_eq_true rfl)
  rw [lg_entry_eq]
  generalize (lg_sl ([.int p0]) ++ List.replicate (1 - (lg_sl ([.int p0])).length) Slot.unset).toArray = ls at hl ⊢
  replace hl : lv_has ls 1 [(0, .int p0)] := hl
  replace hP : va_P (dC, dI) vwCl [] s.heap := hP
  obtain ⟨locs, hlocs⟩ : ∃ lc : List Loc, lc = [] := ⟨_, rfl⟩
  rw [← hlocs] at hS ⊢
  obtain ⟨H, hH⟩ : ∃ H : Heap, H = s.heap := ⟨_, rfl⟩
  have hP2 := hP; rw [← hH] at hP2
  have hS2 : va_S A s.heap H locs := by rw [hH]; exact hS
  suffices hgo : W p l e (headSpec wsX5_isBit ({ frames := 1, cells := 0, slots := 0, locals := 22 })).room s m (([.int p0] : List Value).toArray) below meth c H locs 0 0 (MQ below (va_Qi (fun (r : Int32) (_ : Unit) => r = res ∧ bo r) (QW (dC, dI) cy A []) A) (([.int p0] : List Value).toArray) s 0 0 A) (F0 m 0 ls []) by rw [hH] at hgo; exact hgo
  replace hP := hP2
  replace hS := hS2
  clear hP2 hS2
  unfold fX5_isBit at h
  refine lv_iload_n hx hb dX5_isBit_0 rfl (lv_at hl 0 rfl) ?_
  refine lv_iconst (v := (0 : Int32)) hx hb dX5_isBit_1 (by decide) ?_
  refine lv_iconst (v := (1 : Int32)) hx hb dX5_isBit_2 (by decide) ?_
  obtain ⟨r1, hr1, h⟩ := bd_some h
  have hFc := va_free (wc := []) hD hS hA [] rfl
  refine va_calli (va_runS (As := [.int p0, .int (0 : Int32), .int (1 : Int32)]) (rest := []) ⟨hx, hb, hml, hown, hts⟩ (c_X5_in l dC dI cy  H.size  p0 (0 : Int32) (1 : Int32) r1 hr1) (va_cwS 3 hts gX5_isBit_X5_in rfl rfl rfl (by decide +kernel) ⟨Nat.le_of_ble_eq_true rfl, Nat.le_of_ble_eq_true rfl⟩) ⟨PW_fb, PW_pre (hP.sub (ws' := []) [] rfl) hK (hD.sub [] (by decide) rfl) hN⟩ rfl rfl hl.1 rfl (lv_room (Nat.le_of_ble_eq_true rfl)) dX5_isBit_3 ⟨Nat.zero_le _, Nat.zero_le _⟩) hS (fun q _ h => hFc q h) hFc (fun rz u t H locs ht hvm hw hB hz1 hk1 hS => ?_)
  obtain ⟨hP, hD⟩ := jn (wr := []) (w1 := []) (ws' := []) hP hD [] [] rfl rfl (by decide) (by decide) hk1 hFc hB ht [] rfl (by decide) rfl
  obtain ⟨hw, br1⟩ := hw
  replace hw := hw.symm
  subst hw
  clear hFc hB hk1 hz1 hvm
  have h0 := Option.some.inj h
  subst h0
  exact W.zret (ty := .boolean) hx hb hr br1 (fun t ht hW => ⟨⟨_, (), rfl, ⟨rfl, br1⟩, QW_mk hP hK hD ht hW⟩, hS.F ht⟩) hS.2.2 dX5_isBit_6

noncomputable def fX5_places_L25 (n : Nat) (l3 : Int32) (fxr : Nat → Int32) : Option (Int32 × (Nat → Int32)) := match n with
  | 0 => none
  | n + 1 => if (8 : Int32) ≤ l3 then (some (l3, fxr)) else (gin l3 8 (fX5_places_L25 n (l3 + (1 : Int32)) (upd fxr l3.toNatClampNeg (0 : Int32))))
theorem fX5_places_L25_0 (l3 : Int32) (fxr : Nat → Int32) : fX5_places_L25 0 l3 fxr = none := rfl
theorem fX5_places_L25_s (n : Nat) (l3 : Int32) (fxr : Nat → Int32) : fX5_places_L25 (n + 1) l3 fxr = if (8 : Int32) ≤ l3 then (some (l3, fxr)) else (gin l3 8 (fX5_places_L25 n (l3 + (1 : Int32)) (upd fxr l3.toNatClampNeg (0 : Int32)))) := rfl
noncomputable def fX5_places (vxn : Int32) (fxr : Nat → Int32) (p0 : Int32) : Option (Int32 × Int32 × (Nat → Int32)) := bd (fX5_in p0 (2 : Int32) (8 : Int32)) fun r1 => if r1 = 0 then (some ((-2 : Int32), vxn, fxr)) else (bd (fX5_places_L25 FU (0 : Int32) fxr) fun q4 => some (vxn, p0, q4.2))
set_option maxHeartbeats 4000000 in
set_option maxRecDepth 100000 in
theorem c_X5_places (l : Launch) (dC : Nat → ClassId) (dI : Nat → Nat → Nat) (cy : ClassId) (ax axr axb axj axi axu : Nat) (sz : Nat) (vxn : Int32) (vxk : Int32) (vxA : Int64) (vxB : Int64) (vxC : Int64) (vxE : Int64) (fxr : Nat → Int32) (p0 : Int32) (res : Int32 × Int32 × (Nat → Int32)) (h : fX5_places vxn fxr p0 = some res) : Met l yX5_places wsX5_places ({ frames := 1, cells := 0, slots := 0, locals := 22 }) (va_Pc [.ref ax, .int p0] (PW (dC, dI) cy sz [(ax, .inr (5, [.int vxn, .ref axr, .ref axb, .ref axj, .int vxk, .ref axi, .ref axu, .long vxA, .long vxB, .long vxC, .long vxE])), (axr, .inl (cy, 8, .inl fxr))])) (va_Qi (fun (r : Int32) (_ : Unit) => r = res.1) (QW (dC, dI) cy (va_A [(ax, .inr (5, [.int vxn, .ref axr, .ref axb, .ref axj, .int vxk, .ref axi, .ref axu, .long vxA, .long vxB, .long vxC, .long vxE])), (axr, .inl (cy, 8, .inl fxr))] sz) [(ax, .inr (5, [.int res.2.1, .ref axr, .ref axb, .ref axj, .int vxk, .ref axi, .ref axu, .long vxA, .long vxB, .long vxC, .long vxE])), (axr, .inl (cy, 8, .inl res.2.2))]) (va_A [(ax, .inr (5, [.int vxn, .ref axr, .ref axb, .ref axj, .int vxk, .ref axi, .ref axu, .long vxA, .long vxB, .long vxC, .long vxE])), (axr, .inl (cy, 8, .inl fxr))] sz)) 0 0 (va_A [(ax, .inr (5, [.int vxn, .ref axr, .ref axb, .ref axj, .int vxk, .ref axi, .ref axu, .long vxA, .long vxB, .long vxC, .long vxE])), (axr, .inl (cy, 8, .inl fxr))] sz) := by
  refine Met.ofW (cc := cX5_places) (maxL := 4) (ret := (some .int)) (by decide) rfl ?_
  intro p e s m args below meth c s₁ B hml hv
  obtain ⟨rfl, hsz, hP, hK, hD0, hN⟩ := hv
  have hx := B.exec
  have hb := B.bytes
  have hr := B.returns
  have hts := atoms_spec (ws := wsX5_places) B.pre
  have hown : s.vm.findClass RX5 = some m.cls := findClass_of_methodNamed B.named
  have hlocks := B.notSynchronized
  subst hsz
  have hD := hD0.self (sz := s.heap.size)
  clear hD0
  generalize hAe : va_A [(ax, .inr (5, [.int vxn, .ref axr, .ref axb, .ref axj, .int vxk, .ref axi, .ref axu, .long vxA, .long vxB, .long vxC, .long vxE])), (axr, .inl (cy, 8, .inl fxr))] s.heap.size = A at hD ⊢
  have hA : ∀ q : Nat, s.heap.size ≤ q → A q := fun q h => by rw [← hAe]; exact Or.inr h
  have hS : va_S A s.heap s.heap [] := va_S.rf
  have hl := lv_entry ([.ref ax, .int p0]) (n := 4) (Nat.le_of_ble_eq_true rfl)
  rw [lg_entry_eq]
  generalize (lg_sl ([.ref ax, .int p0]) ++ List.replicate (4 - (lg_sl ([.ref ax, .int p0])).length) Slot.unset).toArray = ls at hl ⊢
  replace hl : lv_has ls 4 [(0, .ref ax), (1, .int p0)] := hl
  replace hP : va_P (dC, dI) vwCl [(ax, .inr (5, [.int vxn, .ref axr, .ref axb, .ref axj, .int vxk, .ref axi, .ref axu, .long vxA, .long vxB, .long vxC, .long vxE])), (axr, .inl (cy, 8, .inl fxr))] s.heap := hP
  obtain ⟨locs, hlocs⟩ : ∃ lc : List Loc, lc = [] := ⟨_, rfl⟩
  rw [← hlocs] at hS ⊢
  obtain ⟨H, hH⟩ : ∃ H : Heap, H = s.heap := ⟨_, rfl⟩
  have hP2 := hP; rw [← hH] at hP2
  have hS2 : va_S A s.heap H locs := by rw [hH]; exact hS
  suffices hgo : W p l e (headSpec wsX5_places ({ frames := 1, cells := 0, slots := 0, locals := 22 })).room s m (([.ref ax, .int p0] : List Value).toArray) below meth c H locs 0 0 (MQ below (va_Qi (fun (r : Int32) (_ : Unit) => r = res.1) (QW (dC, dI) cy A [(ax, .inr (5, [.int res.2.1, .ref axr, .ref axb, .ref axj, .int vxk, .ref axi, .ref axu, .long vxA, .long vxB, .long vxC, .long vxE])), (axr, .inl (cy, 8, .inl res.2.2))]) A) (([.ref ax, .int p0] : List Value).toArray) s 0 0 A) (F0 m 0 ls []) by rw [hH] at hgo; exact hgo
  replace hP := hP2
  replace hS := hS2
  clear hP2 hS2
  have hin_X5 : ∀ w ∈ wsX50, w ∈ wsX5_places := by decide +kernel
  have hf_7 := hts (.fieldLink RX5 7 "FewLooksModel" "n" "I") (by decide +kernel)
  have hf_13 := hts (.fieldLink RX5 13 "FewLooksModel" "row" "[I") (by decide +kernel)
  unfold fX5_places at h
  refine lv_iload_n hx hb dX5_places_0 rfl (lv_at hl 1 rfl) ?_
  refine lv_iconst (v := (2 : Int32)) hx hb dX5_places_1 (by decide) ?_
  refine lv_bipush (v := (8 : Int32)) hx hb dX5_places_2 (by decide) ?_
  obtain ⟨r1, hr1, h⟩ := bd_some h
  have hFc := va_free (wc := []) hD hS hA [] rfl
  refine va_calli (va_runS (As := [.int p0, .int (2 : Int32), .int (8 : Int32)]) (rest := []) ⟨hx, hb, hml, hown, hts⟩ (c_X5_in l dC dI cy  H.size  p0 (2 : Int32) (8 : Int32) r1 hr1) (va_cwS 3 hts gX5_places_X5_in rfl rfl rfl (by decide +kernel) ⟨Nat.le_of_ble_eq_true rfl, Nat.le_of_ble_eq_true rfl⟩) ⟨PW_fb, PW_pre (hP.sub (ws' := []) [] rfl) hK (hD.sub [] (by decide) rfl) hN⟩ rfl rfl hl.1 rfl (lv_room (Nat.le_of_ble_eq_true rfl)) dX5_places_4 ⟨Nat.zero_le _, Nat.zero_le _⟩) hS (fun q _ h => hFc q h) hFc (fun rz u t H locs ht hvm hw hB hz1 hk1 hS => ?_)
  obtain ⟨hP, hD⟩ := jn (wr := [(ax, .inr (5, [.int vxn, .ref axr, .ref axb, .ref axj, .int vxk, .ref axi, .ref axu, .long vxA, .long vxB, .long vxC, .long vxE])), (axr, .inl (cy, 8, .inl fxr))]) (w1 := []) (ws' := [(ax, .inr (5, [.int vxn, .ref axr, .ref axb, .ref axj, .int vxk, .ref axi, .ref axu, .long vxA, .long vxB, .long vxC, .long vxE])), (axr, .inl (cy, 8, .inl fxr))]) hP hD [] [0, 1] rfl rfl (by decide) (by decide) hk1 hFc hB ht [0, 1] rfl (by decide) rfl
  obtain ⟨hw, br1⟩ := hw
  replace hw := hw.symm
  subst hw
  clear hFc hB hk1 hz1 hvm
  refine lv_if_ne (tgt := 13) hx hb dX5_places_7 (by decide) (fun c5 => ?_) (fun c5 => ?_)
  · rw [if_neg c5] at h
    refine lv_aload_n hx hb dX5_places_13 rfl (lv_at hl 0 rfl) ?_
    refine va_get (D := (dC, dI)) (ci := 5) (v := .int vxn) (C := RX5) (T := TX5) (N := 11) hx hb hts hin_X5 hown hK hP 0 rfl rfl 0 (by decide) (hf_7) (fun _ h9 => h9) rfl dX5_places_14 ?_
    refine lv_istore_n (lv' := [(2, .int vxn), (0, .ref ax), (1, .int p0)]) hx hb dX5_places_17 rfl hl (by decide) rfl (fun ls hl => ?_)
    refine lv_aload_n hx hb dX5_places_18 rfl (lv_at hl 1 rfl) ?_
    refine lv_iload_n hx hb dX5_places_19 rfl (lv_at hl 2 rfl) ?_
    refine va_put (D := (dC, dI)) (ci := 5) (v := .int p0) (ty := .int) (C := RX5) (T := TX5) (N := 11) hx hb hts hin_X5 tyX5 tyX5_ok nmX5 hown hK hP hD hS 0 rfl rfl 0 (by decide) (hf_7) (fun _ h9 => h9) rfl (by decide +kernel) rfl rfl (Nat.le_of_ble_eq_true rfl) dX5_places_20 (fun H locs hP hD hS => ?_)
    replace hP : va_P (dC, dI) vwCl [(ax, .inr (5, [.int p0, .ref axr, .ref axb, .ref axj, .int vxk, .ref axi, .ref axu, .long vxA, .long vxB, .long vxC, .long vxE])), (axr, .inl (cy, 8, .inl fxr))] H := hP
    replace hD : va_D A [(ax, .inr (5, [.int p0, .ref axr, .ref axb, .ref axj, .int vxk, .ref axi, .ref axu, .long vxA, .long vxB, .long vxC, .long vxE])), (axr, .inl (cy, 8, .inl fxr))] := hD
    refine lv_iconst (v := (0 : Int32)) hx hb dX5_places_23 (by decide) ?_
    refine lv_istore_n (lv' := [(3, .int (0 : Int32)), (2, .int vxn), (0, .ref ax), (1, .int p0)]) hx hb dX5_places_24 rfl hl (by decide) rfl (fun ls hl => ?_)
    have L25_2 : ∀ (n : Nat) (l1 : Int32) (l2 : Int32) (l3 : Int32) (vxn : Int32) (fxr : Nat → Int32) (rs : (Int32 × (Nat → Int32))) (H : Heap) (locs : List Loc) (ls : Array Slot), fX5_places_L25 n l3 fxr = some rs → lv_has ls 4 [(0, .ref ax), (1, .int l1), (2, .int l2), (3, .int l3)] → va_P (dC, dI) vwCl [(ax, .inr (5, [.int vxn, .ref axr, .ref axb, .ref axj, .int vxk, .ref axi, .ref axu, .long vxA, .long vxB, .long vxC, .long vxE])), (axr, .inl (cy, 8, .inl fxr))] H → va_D A [(ax, .inr (5, [.int vxn, .ref axr, .ref axb, .ref axj, .int vxk, .ref axi, .ref axu, .long vxA, .long vxB, .long vxC, .long vxE])), (axr, .inl (cy, 8, .inl fxr))] → va_S A s.heap H locs → (∀ (H : Heap) (locs : List Loc) (ls : Array Slot), lv_has ls 4 [(0, .ref ax), (1, .int l1), (2, .int l2), (3, .int rs.1)] → va_P (dC, dI) vwCl [(ax, .inr (5, [.int vxn, .ref axr, .ref axb, .ref axj, .int vxk, .ref axi, .ref axu, .long vxA, .long vxB, .long vxC, .long vxE])), (axr, .inl (cy, 8, .inl rs.2))] H → va_D A [(ax, .inr (5, [.int vxn, .ref axr, .ref axb, .ref axj, .int vxk, .ref axi, .ref axu, .long vxA, .long vxB, .long vxC, .long vxE])), (axr, .inl (cy, 8, .inl rs.2))] → va_S A s.heap H locs → W p l e (headSpec wsX5_places ({ frames := 1, cells := 0, slots := 0, locals := 22 })).room s m (([.ref ax, .int p0] : List Value).toArray) below meth c H locs 0 0 (MQ below (va_Qi (fun (r : Int32) (_ : Unit) => r = res.1) (QW (dC, dI) cy A [(ax, .inr (5, [.int res.2.1, .ref axr, .ref axb, .ref axj, .int vxk, .ref axi, .ref axu, .long vxA, .long vxB, .long vxC, .long vxE])), (axr, .inl (cy, 8, .inl res.2.2))]) A) (([.ref ax, .int p0] : List Value).toArray) s 0 0 A) (F0 m 44 ls [])) → W p l e (headSpec wsX5_places ({ frames := 1, cells := 0, slots := 0, locals := 22 })).room s m (([.ref ax, .int p0] : List Value).toArray) below meth c H locs 0 0 (MQ below (va_Qi (fun (r : Int32) (_ : Unit) => r = res.1) (QW (dC, dI) cy A [(ax, .inr (5, [.int res.2.1, .ref axr, .ref axb, .ref axj, .int vxk, .ref axi, .ref axu, .long vxA, .long vxB, .long vxC, .long vxE])), (axr, .inl (cy, 8, .inl res.2.2))]) A) (([.ref ax, .int p0] : List Value).toArray) s 0 0 A) (F0 m 25 ls []) := by
      intro n
      induction n with
      | zero =>
        intro l1 l2 l3 vxn fxr rs H locs ls h
        rw [fX5_places_L25_0] at h
        cases h
      | succ n ih =>
        intro l1 l2 l3 vxn fxr rs H locs ls h hl hP hD hS K
        rw [fX5_places_L25_s] at h
        refine lv_iload_n hx hb dX5_places_25 rfl (lv_at hl 3 rfl) ?_
        refine lv_bipush (v := (8 : Int32)) hx hb dX5_places_26 (by decide) ?_
        refine lv_icmp_ge (tgt := 44) hx hb dX5_places_28 (by decide) (fun c2 => ?_) (fun c2 => ?_)
        · rw [if_pos c2] at h
          have h0 := Option.some.inj h
          subst h0
          exact K H locs ls (lv_sub hl [0, 1, 2, 3] rfl) hP hD hS
        · rw [if_neg c2] at h
          refine lv_aload_n hx hb dX5_places_31 rfl (lv_at hl 0 rfl) ?_
          refine va_get (D := (dC, dI)) (ci := 5) (v := .ref axr) (C := RX5) (T := TX5) (N := 11) hx hb hts hin_X5 hown hK hP 0 rfl rfl 1 (by decide) (hf_13) (fun _ h9 => h9) rfl dX5_places_32 ?_
          refine lv_iload_n hx hb dX5_places_35 rfl (lv_at hl 3 rfl) ?_
          refine lv_iconst (v := (0 : Int32)) hx hb dX5_places_36 (by decide) ?_
          obtain ⟨hi, h⟩ := gin_some h
          refine va_iast hx hb hK hP hD hS 1 0 rfl rfl hi dX5_places_37 (fun H locs hP hD hS => ?_)
          replace hP : va_P (dC, dI) vwCl [(ax, .inr (5, [.int vxn, .ref axr, .ref axb, .ref axj, .int vxk, .ref axi, .ref axu, .long vxA, .long vxB, .long vxC, .long vxE])), (axr, .inl (cy, 8, .inl (upd fxr l3.toNatClampNeg (0 : Int32))))] H := hP
          replace hD : va_D A [(ax, .inr (5, [.int vxn, .ref axr, .ref axb, .ref axj, .int vxk, .ref axi, .ref axu, .long vxA, .long vxB, .long vxC, .long vxE])), (axr, .inl (cy, 8, .inl (upd fxr l3.toNatClampNeg (0 : Int32))))] := hD
          refine lv_iinc (v := l3 + (1 : Int32)) (lv' := [(3, .int (l3 + (1 : Int32))), (0, .ref ax), (1, .int l1), (2, .int l2)]) hx hb dX5_places_38 hl (k := 3) rfl rfl (by decide) rfl (fun ls hl => ?_)
          refine lv_goto (tgt := 25) hx hb dX5_places_41 (by decide) ?_
          exact ih l1 l2 (l3 + (1 : Int32)) vxn (upd fxr l3.toNatClampNeg (0 : Int32)) rs H locs ls h (lv_sub hl [1, 2, 3, 0] rfl) hP hD hS K
    obtain ⟨q4, hq4, h⟩ := bd_some h
    refine L25_2 FU p0 vxn (0 : Int32) p0 fxr q4 H locs ls hq4 (lv_sub hl [2, 3, 1, 0] rfl) hP hD hS (fun H locs ls hl hP hD hS => ?_)
    refine lv_iload_n hx hb dX5_places_44 rfl (lv_at hl 2 rfl) ?_
    have h0 := Option.some.inj h
    subst h0
    exact W.iret hx hb hr (fun t ht hW => ⟨⟨_, (), rfl, rfl, QW_mk hP hK hD ht hW⟩, hS.F ht⟩) hS.2.2 dX5_places_45
  · rw [if_pos c5] at h
    refine lv_bipush (v := (-2 : Int32)) hx hb dX5_places_10 (by decide) ?_
    have h0 := Option.some.inj h
    subst h0
    exact W.iret hx hb hr (fun t ht hW => ⟨⟨_, (), rfl, rfl, QW_mk hP hK hD ht hW⟩, hS.F ht⟩) hS.2.2 dX5_places_12

noncomputable def fX5_digit (vxn : Int32) (fxr : Nat → Int32) (p0 : Int32) (p1 : Int32) : Option (Int32 × (Nat → Int32)) := bd (fX5_isPlace vxn p0) fun r1 => if r1 = 0 then (some ((-2 : Int32), fxr)) else (bd (fX5_in p1 (0 : Int32) (3 : Int32)) fun r2 => if r2 = 0 then (some ((-2 : Int32), fxr)) else (gin p0 8 (gin p0 8 (some (fxr p0.toNatClampNeg, upd fxr p0.toNatClampNeg p1)))))
set_option maxHeartbeats 4000000 in
set_option maxRecDepth 100000 in
theorem c_X5_digit (l : Launch) (dC : Nat → ClassId) (dI : Nat → Nat → Nat) (cy : ClassId) (ax axr axb axj axi axu : Nat) (sz : Nat) (vxn : Int32) (vxk : Int32) (vxA : Int64) (vxB : Int64) (vxC : Int64) (vxE : Int64) (fxr : Nat → Int32) (p0 : Int32) (p1 : Int32) (res : Int32 × (Nat → Int32)) (h : fX5_digit vxn fxr p0 p1 = some res) : Met l yX5_digit wsX5_digit ({ frames := 2, cells := 0, slots := 0, locals := 43 }) (va_Pc [.ref ax, .int p0, .int p1] (PW (dC, dI) cy sz [(ax, .inr (5, [.int vxn, .ref axr, .ref axb, .ref axj, .int vxk, .ref axi, .ref axu, .long vxA, .long vxB, .long vxC, .long vxE])), (axr, .inl (cy, 8, .inl fxr))])) (va_Qi (fun (r : Int32) (_ : Unit) => r = res.1) (QW (dC, dI) cy (va_A [(ax, .inr (5, [.int vxn, .ref axr, .ref axb, .ref axj, .int vxk, .ref axi, .ref axu, .long vxA, .long vxB, .long vxC, .long vxE])), (axr, .inl (cy, 8, .inl fxr))] sz) [(ax, .inr (5, [.int vxn, .ref axr, .ref axb, .ref axj, .int vxk, .ref axi, .ref axu, .long vxA, .long vxB, .long vxC, .long vxE])), (axr, .inl (cy, 8, .inl res.2))]) (va_A [(ax, .inr (5, [.int vxn, .ref axr, .ref axb, .ref axj, .int vxk, .ref axi, .ref axu, .long vxA, .long vxB, .long vxC, .long vxE])), (axr, .inl (cy, 8, .inl fxr))] sz)) 0 0 (va_A [(ax, .inr (5, [.int vxn, .ref axr, .ref axb, .ref axj, .int vxk, .ref axi, .ref axu, .long vxA, .long vxB, .long vxC, .long vxE])), (axr, .inl (cy, 8, .inl fxr))] sz) := by
  refine Met.ofW (cc := cX5_digit) (maxL := 4) (ret := (some .int)) (by decide) rfl ?_
  intro p e s m args below meth c s₁ B hml hv
  obtain ⟨rfl, hsz, hP, hK, hD0, hN⟩ := hv
  have hx := B.exec
  have hb := B.bytes
  have hr := B.returns
  have hts := atoms_spec (ws := wsX5_digit) B.pre
  have hown : s.vm.findClass RX5 = some m.cls := findClass_of_methodNamed B.named
  have hlocks := B.notSynchronized
  subst hsz
  have hD := hD0.self (sz := s.heap.size)
  clear hD0
  generalize hAe : va_A [(ax, .inr (5, [.int vxn, .ref axr, .ref axb, .ref axj, .int vxk, .ref axi, .ref axu, .long vxA, .long vxB, .long vxC, .long vxE])), (axr, .inl (cy, 8, .inl fxr))] s.heap.size = A at hD ⊢
  have hA : ∀ q : Nat, s.heap.size ≤ q → A q := fun q h => by rw [← hAe]; exact Or.inr h
  have hS : va_S A s.heap s.heap [] := va_S.rf
  have hl := lv_entry ([.ref ax, .int p0, .int p1]) (n := 4) (Nat.le_of_ble_eq_true rfl)
  rw [lg_entry_eq]
  generalize (lg_sl ([.ref ax, .int p0, .int p1]) ++ List.replicate (4 - (lg_sl ([.ref ax, .int p0, .int p1])).length) Slot.unset).toArray = ls at hl ⊢
  replace hl : lv_has ls 4 [(0, .ref ax), (1, .int p0), (2, .int p1)] := hl
  replace hP : va_P (dC, dI) vwCl [(ax, .inr (5, [.int vxn, .ref axr, .ref axb, .ref axj, .int vxk, .ref axi, .ref axu, .long vxA, .long vxB, .long vxC, .long vxE])), (axr, .inl (cy, 8, .inl fxr))] s.heap := hP
  obtain ⟨locs, hlocs⟩ : ∃ lc : List Loc, lc = [] := ⟨_, rfl⟩
  rw [← hlocs] at hS ⊢
  obtain ⟨H, hH⟩ : ∃ H : Heap, H = s.heap := ⟨_, rfl⟩
  have hP2 := hP; rw [← hH] at hP2
  have hS2 : va_S A s.heap H locs := by rw [hH]; exact hS
  suffices hgo : W p l e (headSpec wsX5_digit ({ frames := 2, cells := 0, slots := 0, locals := 43 })).room s m (([.ref ax, .int p0, .int p1] : List Value).toArray) below meth c H locs 0 0 (MQ below (va_Qi (fun (r : Int32) (_ : Unit) => r = res.1) (QW (dC, dI) cy A [(ax, .inr (5, [.int vxn, .ref axr, .ref axb, .ref axj, .int vxk, .ref axi, .ref axu, .long vxA, .long vxB, .long vxC, .long vxE])), (axr, .inl (cy, 8, .inl res.2))]) A) (([.ref ax, .int p0, .int p1] : List Value).toArray) s 0 0 A) (F0 m 0 ls []) by rw [hH] at hgo; exact hgo
  replace hP := hP2
  replace hS := hS2
  clear hP2 hS2
  have hin_X5 : ∀ w ∈ wsX50, w ∈ wsX5_digit := by decide +kernel
  have hf_13 := hts (.fieldLink RX5 13 "FewLooksModel" "row" "[I") (by decide +kernel)
  unfold fX5_digit at h
  refine lv_aload_n hx hb dX5_digit_0 rfl (lv_at hl 0 rfl) ?_
  refine lv_iload_n hx hb dX5_digit_1 rfl (lv_at hl 1 rfl) ?_
  obtain ⟨r1, hr1, h⟩ := bd_some h
  have hFc := va_free (wc := [(ax, .inr (5, [.int vxn, .ref axr, .ref axb, .ref axj, .int vxk, .ref axi, .ref axu, .long vxA, .long vxB, .long vxC, .long vxE]))]) hD hS hA [0] rfl
  refine va_calli (va_runV (As := [.int p0]) (rest := []) ⟨hx, hb, hml, hown, hts⟩ (c_X5_isPlace l dC dI cy ax axr axb axj axi axu H.size vxn vxk vxA vxB vxC vxE p0 r1 hr1) (cwV 1 hts gX5_digit_X5_isPlace rfl rfl rfl (by decide +kernel) ⟨Nat.le_of_ble_eq_true rfl, Nat.le_of_ble_eq_true rfl⟩) ⟨PW_fb, va_recv hK hP (ci := 5) (q0 := 0) rfl rfl, PW_pre (hP.sub (ws' := [(ax, .inr (5, [.int vxn, .ref axr, .ref axb, .ref axj, .int vxk, .ref axi, .ref axu, .long vxA, .long vxB, .long vxC, .long vxE]))]) [0] rfl) hK (hD.sub [0] (by decide) rfl) hN⟩ rfl rfl hl.1 rfl (lv_room (Nat.le_of_ble_eq_true rfl)) dX5_digit_2 ⟨Nat.zero_le _, Nat.zero_le _⟩) hS (fun q _ h => hFc q h) hFc (fun rz u t H locs ht hvm hw hB hz1 hk1 hS => ?_)
  obtain ⟨hP, hD⟩ := jn (wr := [(axr, .inl (cy, 8, .inl fxr))]) (w1 := [(ax, .inr (5, [.int vxn, .ref axr, .ref axb, .ref axj, .int vxk, .ref axi, .ref axu, .long vxA, .long vxB, .long vxC, .long vxE]))]) (ws' := [(ax, .inr (5, [.int vxn, .ref axr, .ref axb, .ref axj, .int vxk, .ref axi, .ref axu, .long vxA, .long vxB, .long vxC, .long vxE])), (axr, .inl (cy, 8, .inl fxr))]) hP hD [0] [1] rfl rfl (by decide) (by decide) hk1 hFc hB ht [1, 0] rfl (by decide) rfl
  obtain ⟨hw, br1⟩ := hw
  replace hw := hw.symm
  subst hw
  clear hFc hB hk1 hz1 hvm
  refine lv_if_eq (tgt := 17) hx hb dX5_digit_5 (by decide) (fun c4 => ?_) (fun c4 => ?_)
  · rw [if_pos c4] at h
    refine lv_bipush (v := (-2 : Int32)) hx hb dX5_digit_17 (by decide) ?_
    have h0 := Option.some.inj h
    subst h0
    exact W.iret hx hb hr (fun t ht hW => ⟨⟨_, (), rfl, rfl, QW_mk hP hK hD ht hW⟩, hS.F ht⟩) hS.2.2 dX5_digit_19
  · rw [if_neg c4] at h
    refine lv_iload_n hx hb dX5_digit_8 rfl (lv_at hl 2 rfl) ?_
    refine lv_iconst (v := (0 : Int32)) hx hb dX5_digit_9 (by decide) ?_
    refine lv_iconst (v := (3 : Int32)) hx hb dX5_digit_10 (by decide) ?_
    obtain ⟨r2, hr2, h⟩ := bd_some h
    have hFc := va_free (wc := []) hD hS hA [] rfl
    refine va_calli (va_runS (As := [.int p1, .int (0 : Int32), .int (3 : Int32)]) (rest := []) ⟨hx, hb, hml, hown, hts⟩ (c_X5_in l dC dI cy  H.size  p1 (0 : Int32) (3 : Int32) r2 hr2) (va_cwS 3 hts gX5_digit_X5_in rfl rfl rfl (by decide +kernel) ⟨Nat.le_of_ble_eq_true rfl, Nat.le_of_ble_eq_true rfl⟩) ⟨PW_fb, PW_pre (hP.sub (ws' := []) [] rfl) hK (hD.sub [] (by decide) rfl) hN⟩ rfl rfl hl.1 rfl (lv_room (Nat.le_of_ble_eq_true rfl)) dX5_digit_11 ⟨Nat.zero_le _, Nat.zero_le _⟩) hS (fun q _ h => hFc q h) hFc (fun rz u t H locs ht hvm hw hB hz1 hk1 hS => ?_)
    obtain ⟨hP, hD⟩ := jn (wr := [(ax, .inr (5, [.int vxn, .ref axr, .ref axb, .ref axj, .int vxk, .ref axi, .ref axu, .long vxA, .long vxB, .long vxC, .long vxE])), (axr, .inl (cy, 8, .inl fxr))]) (w1 := []) (ws' := [(ax, .inr (5, [.int vxn, .ref axr, .ref axb, .ref axj, .int vxk, .ref axi, .ref axu, .long vxA, .long vxB, .long vxC, .long vxE])), (axr, .inl (cy, 8, .inl fxr))]) hP hD [] [0, 1] rfl rfl (by decide) (by decide) hk1 hFc hB ht [0, 1] rfl (by decide) rfl
    obtain ⟨hw, br2⟩ := hw
    replace hw := hw.symm
    subst hw
    clear hFc hB hk1 hz1 hvm
    refine lv_if_ne (tgt := 20) hx hb dX5_digit_14 (by decide) (fun c3 => ?_) (fun c3 => ?_)
    · rw [if_neg c3] at h
      refine lv_aload_n hx hb dX5_digit_20 rfl (lv_at hl 0 rfl) ?_
      refine va_get (D := (dC, dI)) (ci := 5) (v := .ref axr) (C := RX5) (T := TX5) (N := 11) hx hb hts hin_X5 hown hK hP 0 rfl rfl 1 (by decide) (hf_13) (fun _ h9 => h9) rfl dX5_digit_21 ?_
      refine lv_iload_n hx hb dX5_digit_24 rfl (lv_at hl 1 rfl) ?_
      obtain ⟨hi, h⟩ := gin_some h
      refine va_iald hx hb hK hP 1 0 rfl rfl hi dX5_digit_25 ?_
      refine lv_istore_n (lv' := [(3, .int (fxr p0.toNatClampNeg)), (0, .ref ax), (1, .int p0), (2, .int p1)]) hx hb dX5_digit_26 rfl hl (by decide) rfl (fun ls hl => ?_)
      refine lv_aload_n hx hb dX5_digit_27 rfl (lv_at hl 1 rfl) ?_
      refine va_get (D := (dC, dI)) (ci := 5) (v := .ref axr) (C := RX5) (T := TX5) (N := 11) hx hb hts hin_X5 hown hK hP 0 rfl rfl 1 (by decide) (hf_13) (fun _ h9 => h9) rfl dX5_digit_28 ?_
      refine lv_iload_n hx hb dX5_digit_31 rfl (lv_at hl 2 rfl) ?_
      refine lv_iload_n hx hb dX5_digit_32 rfl (lv_at hl 3 rfl) ?_
      obtain ⟨hi, h⟩ := gin_some h
      refine va_iast hx hb hK hP hD hS 1 0 rfl rfl hi dX5_digit_33 (fun H locs hP hD hS => ?_)
      replace hP : va_P (dC, dI) vwCl [(ax, .inr (5, [.int vxn, .ref axr, .ref axb, .ref axj, .int vxk, .ref axi, .ref axu, .long vxA, .long vxB, .long vxC, .long vxE])), (axr, .inl (cy, 8, .inl (upd fxr p0.toNatClampNeg p1)))] H := hP
      replace hD : va_D A [(ax, .inr (5, [.int vxn, .ref axr, .ref axb, .ref axj, .int vxk, .ref axi, .ref axu, .long vxA, .long vxB, .long vxC, .long vxE])), (axr, .inl (cy, 8, .inl (upd fxr p0.toNatClampNeg p1)))] := hD
      refine lv_iload_n hx hb dX5_digit_34 rfl (lv_at hl 0 rfl) ?_
      have h0 := Option.some.inj h
      subst h0
      exact W.iret hx hb hr (fun t ht hW => ⟨⟨_, (), rfl, rfl, QW_mk hP hK hD ht hW⟩, hS.F ht⟩) hS.2.2 dX5_digit_35
    · rw [if_pos c3] at h
      refine lv_bipush (v := (-2 : Int32)) hx hb dX5_digit_17 (by decide) ?_
      have h0 := Option.some.inj h
      subst h0
      exact W.iret hx hb hr (fun t ht hW => ⟨⟨_, (), rfl, rfl, QW_mk hP hK hD ht hW⟩, hS.F ht⟩) hS.2.2 dX5_digit_19

noncomputable def fX5_bit (fxb : Nat → Int32) (p0 : Int32) (p1 : Int32) : Option (Int32 × (Nat → Int32)) := bd (fX5_isEight p0) fun r1 => if r1 = 0 then (some ((-2 : Int32), fxb)) else (bd (fX5_isBit p1) fun r2 => if r2 = 0 then (some ((-2 : Int32), fxb)) else (gin p0 8 (gin p0 8 (some (fxb p0.toNatClampNeg, upd fxb p0.toNatClampNeg p1)))))
set_option maxHeartbeats 4000000 in
set_option maxRecDepth 100000 in
theorem c_X5_bit (l : Launch) (dC : Nat → ClassId) (dI : Nat → Nat → Nat) (cy : ClassId) (ax axr axb axj axi axu : Nat) (sz : Nat) (vxn : Int32) (vxk : Int32) (vxA : Int64) (vxB : Int64) (vxC : Int64) (vxE : Int64) (fxb : Nat → Int32) (p0 : Int32) (p1 : Int32) (res : Int32 × (Nat → Int32)) (h : fX5_bit fxb p0 p1 = some res) : Met l yX5_bit wsX5_bit ({ frames := 2, cells := 0, slots := 0, locals := 42 }) (va_Pc [.ref ax, .int p0, .int p1] (PW (dC, dI) cy sz [(ax, .inr (5, [.int vxn, .ref axr, .ref axb, .ref axj, .int vxk, .ref axi, .ref axu, .long vxA, .long vxB, .long vxC, .long vxE])), (axb, .inl (cy, 8, .inl fxb))])) (va_Qi (fun (r : Int32) (_ : Unit) => r = res.1) (QW (dC, dI) cy (va_A [(ax, .inr (5, [.int vxn, .ref axr, .ref axb, .ref axj, .int vxk, .ref axi, .ref axu, .long vxA, .long vxB, .long vxC, .long vxE])), (axb, .inl (cy, 8, .inl fxb))] sz) [(ax, .inr (5, [.int vxn, .ref axr, .ref axb, .ref axj, .int vxk, .ref axi, .ref axu, .long vxA, .long vxB, .long vxC, .long vxE])), (axb, .inl (cy, 8, .inl res.2))]) (va_A [(ax, .inr (5, [.int vxn, .ref axr, .ref axb, .ref axj, .int vxk, .ref axi, .ref axu, .long vxA, .long vxB, .long vxC, .long vxE])), (axb, .inl (cy, 8, .inl fxb))] sz)) 0 0 (va_A [(ax, .inr (5, [.int vxn, .ref axr, .ref axb, .ref axj, .int vxk, .ref axi, .ref axu, .long vxA, .long vxB, .long vxC, .long vxE])), (axb, .inl (cy, 8, .inl fxb))] sz) := by
  refine Met.ofW (cc := cX5_bit) (maxL := 4) (ret := (some .int)) (by decide) rfl ?_
  intro p e s m args below meth c s₁ B hml hv
  obtain ⟨rfl, hsz, hP, hK, hD0, hN⟩ := hv
  have hx := B.exec
  have hb := B.bytes
  have hr := B.returns
  have hts := atoms_spec (ws := wsX5_bit) B.pre
  have hown : s.vm.findClass RX5 = some m.cls := findClass_of_methodNamed B.named
  have hlocks := B.notSynchronized
  subst hsz
  have hD := hD0.self (sz := s.heap.size)
  clear hD0
  generalize hAe : va_A [(ax, .inr (5, [.int vxn, .ref axr, .ref axb, .ref axj, .int vxk, .ref axi, .ref axu, .long vxA, .long vxB, .long vxC, .long vxE])), (axb, .inl (cy, 8, .inl fxb))] s.heap.size = A at hD ⊢
  have hA : ∀ q : Nat, s.heap.size ≤ q → A q := fun q h => by rw [← hAe]; exact Or.inr h
  have hS : va_S A s.heap s.heap [] := va_S.rf
  have hl := lv_entry ([.ref ax, .int p0, .int p1]) (n := 4) (Nat.le_of_ble_eq_true rfl)
  rw [lg_entry_eq]
  generalize (lg_sl ([.ref ax, .int p0, .int p1]) ++ List.replicate (4 - (lg_sl ([.ref ax, .int p0, .int p1])).length) Slot.unset).toArray = ls at hl ⊢
  replace hl : lv_has ls 4 [(0, .ref ax), (1, .int p0), (2, .int p1)] := hl
  replace hP : va_P (dC, dI) vwCl [(ax, .inr (5, [.int vxn, .ref axr, .ref axb, .ref axj, .int vxk, .ref axi, .ref axu, .long vxA, .long vxB, .long vxC, .long vxE])), (axb, .inl (cy, 8, .inl fxb))] s.heap := hP
  obtain ⟨locs, hlocs⟩ : ∃ lc : List Loc, lc = [] := ⟨_, rfl⟩
  rw [← hlocs] at hS ⊢
  obtain ⟨H, hH⟩ : ∃ H : Heap, H = s.heap := ⟨_, rfl⟩
  have hP2 := hP; rw [← hH] at hP2
  have hS2 : va_S A s.heap H locs := by rw [hH]; exact hS
  suffices hgo : W p l e (headSpec wsX5_bit ({ frames := 2, cells := 0, slots := 0, locals := 42 })).room s m (([.ref ax, .int p0, .int p1] : List Value).toArray) below meth c H locs 0 0 (MQ below (va_Qi (fun (r : Int32) (_ : Unit) => r = res.1) (QW (dC, dI) cy A [(ax, .inr (5, [.int vxn, .ref axr, .ref axb, .ref axj, .int vxk, .ref axi, .ref axu, .long vxA, .long vxB, .long vxC, .long vxE])), (axb, .inl (cy, 8, .inl res.2))]) A) (([.ref ax, .int p0, .int p1] : List Value).toArray) s 0 0 A) (F0 m 0 ls []) by rw [hH] at hgo; exact hgo
  replace hP := hP2
  replace hS := hS2
  clear hP2 hS2
  have hin_X5 : ∀ w ∈ wsX50, w ∈ wsX5_bit := by decide +kernel
  have hf_17 := hts (.fieldLink RX5 17 "FewLooksModel" "table" "[I") (by decide +kernel)
  unfold fX5_bit at h
  refine lv_iload_n hx hb dX5_bit_0 rfl (lv_at hl 1 rfl) ?_
  obtain ⟨r1, hr1, h⟩ := bd_some h
  have hFc := va_free (wc := []) hD hS hA [] rfl
  refine va_calli (va_runS (As := [.int p0]) (rest := []) ⟨hx, hb, hml, hown, hts⟩ (c_X5_isEight l dC dI cy  H.size  p0 r1 hr1) (va_cwS 1 hts gX5_bit_X5_isEight rfl rfl rfl (by decide +kernel) ⟨Nat.le_of_ble_eq_true rfl, Nat.le_of_ble_eq_true rfl⟩) ⟨PW_fb, PW_pre (hP.sub (ws' := []) [] rfl) hK (hD.sub [] (by decide) rfl) hN⟩ rfl rfl hl.1 rfl (lv_room (Nat.le_of_ble_eq_true rfl)) dX5_bit_1 ⟨Nat.zero_le _, Nat.zero_le _⟩) hS (fun q _ h => hFc q h) hFc (fun rz u t H locs ht hvm hw hB hz1 hk1 hS => ?_)
  obtain ⟨hP, hD⟩ := jn (wr := [(ax, .inr (5, [.int vxn, .ref axr, .ref axb, .ref axj, .int vxk, .ref axi, .ref axu, .long vxA, .long vxB, .long vxC, .long vxE])), (axb, .inl (cy, 8, .inl fxb))]) (w1 := []) (ws' := [(ax, .inr (5, [.int vxn, .ref axr, .ref axb, .ref axj, .int vxk, .ref axi, .ref axu, .long vxA, .long vxB, .long vxC, .long vxE])), (axb, .inl (cy, 8, .inl fxb))]) hP hD [] [0, 1] rfl rfl (by decide) (by decide) hk1 hFc hB ht [0, 1] rfl (by decide) rfl
  obtain ⟨hw, br1⟩ := hw
  replace hw := hw.symm
  subst hw
  clear hFc hB hk1 hz1 hvm
  refine lv_if_eq (tgt := 14) hx hb dX5_bit_4 (by decide) (fun c4 => ?_) (fun c4 => ?_)
  · rw [if_pos c4] at h
    refine lv_bipush (v := (-2 : Int32)) hx hb dX5_bit_14 (by decide) ?_
    have h0 := Option.some.inj h
    subst h0
    exact W.iret hx hb hr (fun t ht hW => ⟨⟨_, (), rfl, rfl, QW_mk hP hK hD ht hW⟩, hS.F ht⟩) hS.2.2 dX5_bit_16
  · rw [if_neg c4] at h
    refine lv_iload_n hx hb dX5_bit_7 rfl (lv_at hl 2 rfl) ?_
    obtain ⟨r2, hr2, h⟩ := bd_some h
    have hFc := va_free (wc := []) hD hS hA [] rfl
    refine va_calli (va_runS (As := [.int p1]) (rest := []) ⟨hx, hb, hml, hown, hts⟩ (c_X5_isBit l dC dI cy  H.size  p1 r2 hr2) (va_cwS 1 hts gX5_bit_X5_isBit rfl rfl rfl (by decide +kernel) ⟨Nat.le_of_ble_eq_true rfl, Nat.le_of_ble_eq_true rfl⟩) ⟨PW_fb, PW_pre (hP.sub (ws' := []) [] rfl) hK (hD.sub [] (by decide) rfl) hN⟩ rfl rfl hl.1 rfl (lv_room (Nat.le_of_ble_eq_true rfl)) dX5_bit_8 ⟨Nat.zero_le _, Nat.zero_le _⟩) hS (fun q _ h => hFc q h) hFc (fun rz u t H locs ht hvm hw hB hz1 hk1 hS => ?_)
    obtain ⟨hP, hD⟩ := jn (wr := [(ax, .inr (5, [.int vxn, .ref axr, .ref axb, .ref axj, .int vxk, .ref axi, .ref axu, .long vxA, .long vxB, .long vxC, .long vxE])), (axb, .inl (cy, 8, .inl fxb))]) (w1 := []) (ws' := [(ax, .inr (5, [.int vxn, .ref axr, .ref axb, .ref axj, .int vxk, .ref axi, .ref axu, .long vxA, .long vxB, .long vxC, .long vxE])), (axb, .inl (cy, 8, .inl fxb))]) hP hD [] [0, 1] rfl rfl (by decide) (by decide) hk1 hFc hB ht [0, 1] rfl (by decide) rfl
    obtain ⟨hw, br2⟩ := hw
    replace hw := hw.symm
    subst hw
    clear hFc hB hk1 hz1 hvm
    refine lv_if_ne (tgt := 17) hx hb dX5_bit_11 (by decide) (fun c3 => ?_) (fun c3 => ?_)
    · rw [if_neg c3] at h
      refine lv_aload_n hx hb dX5_bit_17 rfl (lv_at hl 0 rfl) ?_
      refine va_get (D := (dC, dI)) (ci := 5) (v := .ref axb) (C := RX5) (T := TX5) (N := 11) hx hb hts hin_X5 hown hK hP 0 rfl rfl 2 (by decide) (hf_17) (fun _ h9 => h9) rfl dX5_bit_18 ?_
      refine lv_iload_n hx hb dX5_bit_21 rfl (lv_at hl 1 rfl) ?_
      obtain ⟨hi, h⟩ := gin_some h
      refine va_iald hx hb hK hP 1 0 rfl rfl hi dX5_bit_22 ?_
      refine lv_istore_n (lv' := [(3, .int (fxb p0.toNatClampNeg)), (0, .ref ax), (1, .int p0), (2, .int p1)]) hx hb dX5_bit_23 rfl hl (by decide) rfl (fun ls hl => ?_)
      refine lv_aload_n hx hb dX5_bit_24 rfl (lv_at hl 1 rfl) ?_
      refine va_get (D := (dC, dI)) (ci := 5) (v := .ref axb) (C := RX5) (T := TX5) (N := 11) hx hb hts hin_X5 hown hK hP 0 rfl rfl 2 (by decide) (hf_17) (fun _ h9 => h9) rfl dX5_bit_25 ?_
      refine lv_iload_n hx hb dX5_bit_28 rfl (lv_at hl 2 rfl) ?_
      refine lv_iload_n hx hb dX5_bit_29 rfl (lv_at hl 3 rfl) ?_
      obtain ⟨hi, h⟩ := gin_some h
      refine va_iast hx hb hK hP hD hS 1 0 rfl rfl hi dX5_bit_30 (fun H locs hP hD hS => ?_)
      replace hP : va_P (dC, dI) vwCl [(ax, .inr (5, [.int vxn, .ref axr, .ref axb, .ref axj, .int vxk, .ref axi, .ref axu, .long vxA, .long vxB, .long vxC, .long vxE])), (axb, .inl (cy, 8, .inl (upd fxb p0.toNatClampNeg p1)))] H := hP
      replace hD : va_D A [(ax, .inr (5, [.int vxn, .ref axr, .ref axb, .ref axj, .int vxk, .ref axi, .ref axu, .long vxA, .long vxB, .long vxC, .long vxE])), (axb, .inl (cy, 8, .inl (upd fxb p0.toNatClampNeg p1)))] := hD
      refine lv_iload_n hx hb dX5_bit_31 rfl (lv_at hl 0 rfl) ?_
      have h0 := Option.some.inj h
      subst h0
      exact W.iret hx hb hr (fun t ht hW => ⟨⟨_, (), rfl, rfl, QW_mk hP hK hD ht hW⟩, hS.F ht⟩) hS.2.2 dX5_bit_32
    · rw [if_pos c3] at h
      refine lv_bipush (v := (-2 : Int32)) hx hb dX5_bit_14 (by decide) ?_
      have h0 := Option.some.inj h
      subst h0
      exact W.iret hx hb hr (fun t ht hW => ⟨⟨_, (), rfl, rfl, QW_mk hP hK hD ht hW⟩, hS.F ht⟩) hS.2.2 dX5_bit_16

noncomputable def fX5_parity  (p0 : Int32) (p1 : Int32) : Option (Int32) := bd (fX5_ones (p0 &&& p1)) fun r1 => some (r1 - r1 / (2 : Int32) * (2 : Int32))
set_option maxHeartbeats 4000000 in
set_option maxRecDepth 100000 in
theorem c_X5_parity (l : Launch) (dC : Nat → ClassId) (dI : Nat → Nat → Nat) (cy : ClassId)  (sz : Nat)  (p0 : Int32) (p1 : Int32) (res : Int32) (h : fX5_parity p0 p1 = some res) : Met l yX5_parity wsX5_parity ({ frames := 1, cells := 0, slots := 0, locals := 22 }) (va_Pc [.int p0, .int p1] (PW (dC, dI) cy sz [])) (va_Qi (fun (r : Int32) (_ : Unit) => r = res) (QW (dC, dI) cy (va_A [] sz) []) (va_A [] sz)) 0 0 (va_A [] sz) := by
  refine Met.ofW (cc := cX5_parity) (maxL := 2) (ret := (some .int)) (by decide) rfl ?_
  intro p e s m args below meth c s₁ B hml hv
  obtain ⟨rfl, hsz, hP, hK, hD0, hN⟩ := hv
  have hx := B.exec
  have hb := B.bytes
  have hr := B.returns
  have hts := atoms_spec (ws := wsX5_parity) B.pre
  have hown : s.vm.findClass RX5 = some m.cls := findClass_of_methodNamed B.named
  have hlocks := B.notSynchronized
  subst hsz
  have hD := hD0.self (sz := s.heap.size)
  clear hD0
  generalize hAe : va_A [] s.heap.size = A at hD ⊢
  have hA : ∀ q : Nat, s.heap.size ≤ q → A q := fun q h => by rw [← hAe]; exact Or.inr h
  have hS : va_S A s.heap s.heap [] := va_S.rf
  have hl := lv_entry ([.int p0, .int p1]) (n := 2) (Nat.le_of_ble_eq_true rfl)
  rw [lg_entry_eq]
  generalize (lg_sl ([.int p0, .int p1]) ++ List.replicate (2 - (lg_sl ([.int p0, .int p1])).length) Slot.unset).toArray = ls at hl ⊢
  replace hl : lv_has ls 2 [(0, .int p0), (1, .int p1)] := hl
  replace hP : va_P (dC, dI) vwCl [] s.heap := hP
  obtain ⟨locs, hlocs⟩ : ∃ lc : List Loc, lc = [] := ⟨_, rfl⟩
  rw [← hlocs] at hS ⊢
  obtain ⟨H, hH⟩ : ∃ H : Heap, H = s.heap := ⟨_, rfl⟩
  have hP2 := hP; rw [← hH] at hP2
  have hS2 : va_S A s.heap H locs := by rw [hH]; exact hS
  suffices hgo : W p l e (headSpec wsX5_parity ({ frames := 1, cells := 0, slots := 0, locals := 22 })).room s m (([.int p0, .int p1] : List Value).toArray) below meth c H locs 0 0 (MQ below (va_Qi (fun (r : Int32) (_ : Unit) => r = res) (QW (dC, dI) cy A []) A) (([.int p0, .int p1] : List Value).toArray) s 0 0 A) (F0 m 0 ls []) by rw [hH] at hgo; exact hgo
  replace hP := hP2
  replace hS := hS2
  clear hP2 hS2
  unfold fX5_parity at h
  refine lv_iload_n hx hb dX5_parity_0 rfl (lv_at hl 0 rfl) ?_
  refine lv_iload_n hx hb dX5_parity_1 rfl (lv_at hl 1 rfl) ?_
  refine lv_iand hx hb dX5_parity_2 ?_
  obtain ⟨r1, hr1, h⟩ := bd_some h
  have hFc := va_free (wc := []) hD hS hA [] rfl
  refine va_calli (va_runS (As := [.int (p0 &&& p1)]) (rest := []) ⟨hx, hb, hml, hown, hts⟩ (c_X5_ones l dC dI cy  H.size  (p0 &&& p1) r1 hr1) (va_cwS 1 hts gX5_parity_X5_ones rfl rfl rfl (by decide +kernel) ⟨Nat.le_of_ble_eq_true rfl, Nat.le_of_ble_eq_true rfl⟩) ⟨PW_fb, PW_pre (hP.sub (ws' := []) [] rfl) hK (hD.sub [] (by decide) rfl) hN⟩ rfl rfl hl.1 rfl (lv_room (Nat.le_of_ble_eq_true rfl)) dX5_parity_3 ⟨Nat.zero_le _, Nat.zero_le _⟩) hS (fun q _ h => hFc q h) hFc (fun rz u t H locs ht hvm hw hB hz1 hk1 hS => ?_)
  obtain ⟨hP, hD⟩ := jn (wr := []) (w1 := []) (ws' := []) hP hD [] [] rfl rfl (by decide) (by decide) hk1 hFc hB ht [] rfl (by decide) rfl
  replace hw := hw.symm
  subst hw
  clear hFc hB hk1 hz1 hvm
  refine lv_iconst (v := (2 : Int32)) hx hb dX5_parity_6 (by decide) ?_
  refine lv_irem hx hb dX5_parity_7 (by decide) ?_
  have h0 := Option.some.inj h
  subst h0
  exact W.iret hx hb hr (fun t ht hW => ⟨⟨_, (), rfl, rfl, QW_mk hP hK hD ht hW⟩, hS.F ht⟩) hS.2.2 dX5_parity_8

noncomputable def fX5_linear_L12 (n : Nat) (l1 : Int32) (l2 : Int32) (fxb : Nat → Int32) : Option (Int32 × (Nat → Int32)) := match n with
  | 0 => none
  | n + 1 => if (8 : Int32) ≤ l2 then (some (l2, fxb)) else (bd (fX5_parity l1 l2) fun r2 => gin l2 8 (fX5_linear_L12 n l1 (l2 + (1 : Int32)) (upd fxb l2.toNatClampNeg r2)))
theorem fX5_linear_L12_0 (l1 : Int32) (l2 : Int32) (fxb : Nat → Int32) : fX5_linear_L12 0 l1 l2 fxb = none := rfl
theorem fX5_linear_L12_s (n : Nat) (l1 : Int32) (l2 : Int32) (fxb : Nat → Int32) : fX5_linear_L12 (n + 1) l1 l2 fxb = if (8 : Int32) ≤ l2 then (some (l2, fxb)) else (bd (fX5_parity l1 l2) fun r2 => gin l2 8 (fX5_linear_L12 n l1 (l2 + (1 : Int32)) (upd fxb l2.toNatClampNeg r2))) := rfl
noncomputable def fX5_linear (fxb : Nat → Int32) (p0 : Int32) : Option (Int32 × (Nat → Int32)) := bd (fX5_isEight p0) fun r1 => if r1 = 0 then (some ((-2 : Int32), fxb)) else (bd (fX5_linear_L12 FU p0 (0 : Int32) fxb) fun q5 => some ((1 : Int32), q5.2))
set_option maxHeartbeats 4000000 in
set_option maxRecDepth 100000 in
theorem c_X5_linear (l : Launch) (dC : Nat → ClassId) (dI : Nat → Nat → Nat) (cy : ClassId) (ax axr axb axj axi axu : Nat) (sz : Nat) (vxn : Int32) (vxk : Int32) (vxA : Int64) (vxB : Int64) (vxC : Int64) (vxE : Int64) (fxb : Nat → Int32) (p0 : Int32) (res : Int32 × (Nat → Int32)) (h : fX5_linear fxb p0 = some res) : Met l yX5_linear wsX5_linear ({ frames := 2, cells := 0, slots := 0, locals := 43 }) (va_Pc [.ref ax, .int p0] (PW (dC, dI) cy sz [(ax, .inr (5, [.int vxn, .ref axr, .ref axb, .ref axj, .int vxk, .ref axi, .ref axu, .long vxA, .long vxB, .long vxC, .long vxE])), (axb, .inl (cy, 8, .inl fxb))])) (va_Qi (fun (r : Int32) (_ : Unit) => r = res.1) (QW (dC, dI) cy (va_A [(ax, .inr (5, [.int vxn, .ref axr, .ref axb, .ref axj, .int vxk, .ref axi, .ref axu, .long vxA, .long vxB, .long vxC, .long vxE])), (axb, .inl (cy, 8, .inl fxb))] sz) [(ax, .inr (5, [.int vxn, .ref axr, .ref axb, .ref axj, .int vxk, .ref axi, .ref axu, .long vxA, .long vxB, .long vxC, .long vxE])), (axb, .inl (cy, 8, .inl res.2))]) (va_A [(ax, .inr (5, [.int vxn, .ref axr, .ref axb, .ref axj, .int vxk, .ref axi, .ref axu, .long vxA, .long vxB, .long vxC, .long vxE])), (axb, .inl (cy, 8, .inl fxb))] sz)) 0 0 (va_A [(ax, .inr (5, [.int vxn, .ref axr, .ref axb, .ref axj, .int vxk, .ref axi, .ref axu, .long vxA, .long vxB, .long vxC, .long vxE])), (axb, .inl (cy, 8, .inl fxb))] sz) := by
  refine Met.ofW (cc := cX5_linear) (maxL := 3) (ret := (some .int)) (by decide) rfl ?_
  intro p e s m args below meth c s₁ B hml hv
  obtain ⟨rfl, hsz, hP, hK, hD0, hN⟩ := hv
  have hx := B.exec
  have hb := B.bytes
  have hr := B.returns
  have hts := atoms_spec (ws := wsX5_linear) B.pre
  have hown : s.vm.findClass RX5 = some m.cls := findClass_of_methodNamed B.named
  have hlocks := B.notSynchronized
  subst hsz
  have hD := hD0.self (sz := s.heap.size)
  clear hD0
  generalize hAe : va_A [(ax, .inr (5, [.int vxn, .ref axr, .ref axb, .ref axj, .int vxk, .ref axi, .ref axu, .long vxA, .long vxB, .long vxC, .long vxE])), (axb, .inl (cy, 8, .inl fxb))] s.heap.size = A at hD ⊢
  have hA : ∀ q : Nat, s.heap.size ≤ q → A q := fun q h => by rw [← hAe]; exact Or.inr h
  have hS : va_S A s.heap s.heap [] := va_S.rf
  have hl := lv_entry ([.ref ax, .int p0]) (n := 3) (Nat.le_of_ble_eq_true rfl)
  rw [lg_entry_eq]
  generalize (lg_sl ([.ref ax, .int p0]) ++ List.replicate (3 - (lg_sl ([.ref ax, .int p0])).length) Slot.unset).toArray = ls at hl ⊢
  replace hl : lv_has ls 3 [(0, .ref ax), (1, .int p0)] := hl
  replace hP : va_P (dC, dI) vwCl [(ax, .inr (5, [.int vxn, .ref axr, .ref axb, .ref axj, .int vxk, .ref axi, .ref axu, .long vxA, .long vxB, .long vxC, .long vxE])), (axb, .inl (cy, 8, .inl fxb))] s.heap := hP
  obtain ⟨locs, hlocs⟩ : ∃ lc : List Loc, lc = [] := ⟨_, rfl⟩
  rw [← hlocs] at hS ⊢
  obtain ⟨H, hH⟩ : ∃ H : Heap, H = s.heap := ⟨_, rfl⟩
  have hP2 := hP; rw [← hH] at hP2
  have hS2 : va_S A s.heap H locs := by rw [hH]; exact hS
  suffices hgo : W p l e (headSpec wsX5_linear ({ frames := 2, cells := 0, slots := 0, locals := 43 })).room s m (([.ref ax, .int p0] : List Value).toArray) below meth c H locs 0 0 (MQ below (va_Qi (fun (r : Int32) (_ : Unit) => r = res.1) (QW (dC, dI) cy A [(ax, .inr (5, [.int vxn, .ref axr, .ref axb, .ref axj, .int vxk, .ref axi, .ref axu, .long vxA, .long vxB, .long vxC, .long vxE])), (axb, .inl (cy, 8, .inl res.2))]) A) (([.ref ax, .int p0] : List Value).toArray) s 0 0 A) (F0 m 0 ls []) by rw [hH] at hgo; exact hgo
  replace hP := hP2
  replace hS := hS2
  clear hP2 hS2
  have hin_X5 : ∀ w ∈ wsX50, w ∈ wsX5_linear := by decide +kernel
  have hf_17 := hts (.fieldLink RX5 17 "FewLooksModel" "table" "[I") (by decide +kernel)
  unfold fX5_linear at h
  refine lv_iload_n hx hb dX5_linear_0 rfl (lv_at hl 1 rfl) ?_
  obtain ⟨r1, hr1, h⟩ := bd_some h
  have hFc := va_free (wc := []) hD hS hA [] rfl
  refine va_calli (va_runS (As := [.int p0]) (rest := []) ⟨hx, hb, hml, hown, hts⟩ (c_X5_isEight l dC dI cy  H.size  p0 r1 hr1) (va_cwS 1 hts gX5_linear_X5_isEight rfl rfl rfl (by decide +kernel) ⟨Nat.le_of_ble_eq_true rfl, Nat.le_of_ble_eq_true rfl⟩) ⟨PW_fb, PW_pre (hP.sub (ws' := []) [] rfl) hK (hD.sub [] (by decide) rfl) hN⟩ rfl rfl hl.1 rfl (lv_room (Nat.le_of_ble_eq_true rfl)) dX5_linear_1 ⟨Nat.zero_le _, Nat.zero_le _⟩) hS (fun q _ h => hFc q h) hFc (fun rz u t H locs ht hvm hw hB hz1 hk1 hS => ?_)
  obtain ⟨hP, hD⟩ := jn (wr := [(ax, .inr (5, [.int vxn, .ref axr, .ref axb, .ref axj, .int vxk, .ref axi, .ref axu, .long vxA, .long vxB, .long vxC, .long vxE])), (axb, .inl (cy, 8, .inl fxb))]) (w1 := []) (ws' := [(ax, .inr (5, [.int vxn, .ref axr, .ref axb, .ref axj, .int vxk, .ref axi, .ref axu, .long vxA, .long vxB, .long vxC, .long vxE])), (axb, .inl (cy, 8, .inl fxb))]) hP hD [] [0, 1] rfl rfl (by decide) (by decide) hk1 hFc hB ht [0, 1] rfl (by decide) rfl
  obtain ⟨hw, br1⟩ := hw
  replace hw := hw.symm
  subst hw
  clear hFc hB hk1 hz1 hvm
  refine lv_if_ne (tgt := 10) hx hb dX5_linear_4 (by decide) (fun c6 => ?_) (fun c6 => ?_)
  · rw [if_neg c6] at h
    refine lv_iconst (v := (0 : Int32)) hx hb dX5_linear_10 (by decide) ?_
    refine lv_istore_n (lv' := [(2, .int (0 : Int32)), (0, .ref ax), (1, .int p0)]) hx hb dX5_linear_11 rfl hl (by decide) rfl (fun ls hl => ?_)
    have L12_3 : ∀ (n : Nat) (l1 : Int32) (l2 : Int32) (fxb : Nat → Int32) (rs : (Int32 × (Nat → Int32))) (H : Heap) (locs : List Loc) (ls : Array Slot), fX5_linear_L12 n l1 l2 fxb = some rs → lv_has ls 3 [(0, .ref ax), (1, .int l1), (2, .int l2)] → va_P (dC, dI) vwCl [(ax, .inr (5, [.int vxn, .ref axr, .ref axb, .ref axj, .int vxk, .ref axi, .ref axu, .long vxA, .long vxB, .long vxC, .long vxE])), (axb, .inl (cy, 8, .inl fxb))] H → va_D A [(ax, .inr (5, [.int vxn, .ref axr, .ref axb, .ref axj, .int vxk, .ref axi, .ref axu, .long vxA, .long vxB, .long vxC, .long vxE])), (axb, .inl (cy, 8, .inl fxb))] → va_S A s.heap H locs → (∀ (H : Heap) (locs : List Loc) (ls : Array Slot), lv_has ls 3 [(0, .ref ax), (1, .int l1), (2, .int rs.1)] → va_P (dC, dI) vwCl [(ax, .inr (5, [.int vxn, .ref axr, .ref axb, .ref axj, .int vxk, .ref axi, .ref axu, .long vxA, .long vxB, .long vxC, .long vxE])), (axb, .inl (cy, 8, .inl rs.2))] H → va_D A [(ax, .inr (5, [.int vxn, .ref axr, .ref axb, .ref axj, .int vxk, .ref axi, .ref axu, .long vxA, .long vxB, .long vxC, .long vxE])), (axb, .inl (cy, 8, .inl rs.2))] → va_S A s.heap H locs → W p l e (headSpec wsX5_linear ({ frames := 2, cells := 0, slots := 0, locals := 43 })).room s m (([.ref ax, .int p0] : List Value).toArray) below meth c H locs 0 0 (MQ below (va_Qi (fun (r : Int32) (_ : Unit) => r = res.1) (QW (dC, dI) cy A [(ax, .inr (5, [.int vxn, .ref axr, .ref axb, .ref axj, .int vxk, .ref axi, .ref axu, .long vxA, .long vxB, .long vxC, .long vxE])), (axb, .inl (cy, 8, .inl res.2))]) A) (([.ref ax, .int p0] : List Value).toArray) s 0 0 A) (F0 m 35 ls [])) → W p l e (headSpec wsX5_linear ({ frames := 2, cells := 0, slots := 0, locals := 43 })).room s m (([.ref ax, .int p0] : List Value).toArray) below meth c H locs 0 0 (MQ below (va_Qi (fun (r : Int32) (_ : Unit) => r = res.1) (QW (dC, dI) cy A [(ax, .inr (5, [.int vxn, .ref axr, .ref axb, .ref axj, .int vxk, .ref axi, .ref axu, .long vxA, .long vxB, .long vxC, .long vxE])), (axb, .inl (cy, 8, .inl res.2))]) A) (([.ref ax, .int p0] : List Value).toArray) s 0 0 A) (F0 m 12 ls []) := by
      intro n
      induction n with
      | zero =>
        intro l1 l2 fxb rs H locs ls h
        rw [fX5_linear_L12_0] at h
        cases h
      | succ n ih =>
        intro l1 l2 fxb rs H locs ls h hl hP hD hS K
        rw [fX5_linear_L12_s] at h
        refine lv_iload_n hx hb dX5_linear_12 rfl (lv_at hl 2 rfl) ?_
        refine lv_bipush (v := (8 : Int32)) hx hb dX5_linear_13 (by decide) ?_
        refine lv_icmp_ge (tgt := 35) hx hb dX5_linear_15 (by decide) (fun c3 => ?_) (fun c3 => ?_)
        · rw [if_pos c3] at h
          have h0 := Option.some.inj h
          subst h0
          exact K H locs ls (lv_sub hl [0, 1, 2] rfl) hP hD hS
        · rw [if_neg c3] at h
          refine lv_aload_n hx hb dX5_linear_18 rfl (lv_at hl 0 rfl) ?_
          refine va_get (D := (dC, dI)) (ci := 5) (v := .ref axb) (C := RX5) (T := TX5) (N := 11) hx hb hts hin_X5 hown hK hP 0 rfl rfl 2 (by decide) (hf_17) (fun _ h9 => h9) rfl dX5_linear_19 ?_
          refine lv_iload_n hx hb dX5_linear_22 rfl (lv_at hl 2 rfl) ?_
          refine lv_iload_n hx hb dX5_linear_23 rfl (lv_at hl 1 rfl) ?_
          refine lv_iload_n hx hb dX5_linear_24 rfl (lv_at hl 2 rfl) ?_
          obtain ⟨r2, hr2, h⟩ := bd_some h
          have hFc := va_free (wc := []) hD hS hA [] rfl
          refine va_calli (va_runS (As := [.int l1, .int l2]) (rest := [.int l2, .ref axb]) ⟨hx, hb, hml, hown, hts⟩ (c_X5_parity l dC dI cy  H.size  l1 l2 r2 hr2) (va_cwS 2 hts gX5_linear_X5_parity rfl rfl rfl (by decide +kernel) ⟨Nat.le_of_ble_eq_true rfl, Nat.le_of_ble_eq_true rfl⟩) ⟨PW_fb, PW_pre (hP.sub (ws' := []) [] rfl) hK (hD.sub [] (by decide) rfl) hN⟩ rfl rfl hl.1 rfl (lv_room (Nat.le_of_ble_eq_true rfl)) dX5_linear_25 ⟨Nat.zero_le _, Nat.zero_le _⟩) hS (fun q _ h => hFc q h) hFc (fun rz u t H locs ht hvm hw hB hz1 hk1 hS => ?_)
          obtain ⟨hP, hD⟩ := jn (wr := [(ax, .inr (5, [.int vxn, .ref axr, .ref axb, .ref axj, .int vxk, .ref axi, .ref axu, .long vxA, .long vxB, .long vxC, .long vxE])), (axb, .inl (cy, 8, .inl fxb))]) (w1 := []) (ws' := [(ax, .inr (5, [.int vxn, .ref axr, .ref axb, .ref axj, .int vxk, .ref axi, .ref axu, .long vxA, .long vxB, .long vxC, .long vxE])), (axb, .inl (cy, 8, .inl fxb))]) hP hD [] [0, 1] rfl rfl (by decide) (by decide) hk1 hFc hB ht [0, 1] rfl (by decide) rfl
          replace hw := hw.symm
          subst hw
          clear hFc hB hk1 hz1 hvm
          obtain ⟨hi, h⟩ := gin_some h
          refine va_iast hx hb hK hP hD hS 1 0 rfl rfl hi dX5_linear_28 (fun H locs hP hD hS => ?_)
          replace hP : va_P (dC, dI) vwCl [(ax, .inr (5, [.int vxn, .ref axr, .ref axb, .ref axj, .int vxk, .ref axi, .ref axu, .long vxA, .long vxB, .long vxC, .long vxE])), (axb, .inl (cy, 8, .inl (upd fxb l2.toNatClampNeg r2)))] H := hP
          replace hD : va_D A [(ax, .inr (5, [.int vxn, .ref axr, .ref axb, .ref axj, .int vxk, .ref axi, .ref axu, .long vxA, .long vxB, .long vxC, .long vxE])), (axb, .inl (cy, 8, .inl (upd fxb l2.toNatClampNeg r2)))] := hD
          refine lv_iinc (v := l2 + (1 : Int32)) (lv' := [(2, .int (l2 + (1 : Int32))), (0, .ref ax), (1, .int l1)]) hx hb dX5_linear_29 hl (k := 2) rfl rfl (by decide) rfl (fun ls hl => ?_)
          refine lv_goto (tgt := 12) hx hb dX5_linear_32 (by decide) ?_
          exact ih l1 (l2 + (1 : Int32)) (upd fxb l2.toNatClampNeg r2) rs H locs ls h (lv_sub hl [1, 2, 0] rfl) hP hD hS K
    obtain ⟨q5, hq5, h⟩ := bd_some h
    refine L12_3 FU p0 (0 : Int32) fxb q5 H locs ls hq5 (lv_sub hl [1, 2, 0] rfl) hP hD hS (fun H locs ls hl hP hD hS => ?_)
    refine lv_iconst (v := (1 : Int32)) hx hb dX5_linear_35 (by decide) ?_
    have h0 := Option.some.inj h
    subst h0
    exact W.iret hx hb hr (fun t ht hW => ⟨⟨_, (), rfl, rfl, QW_mk hP hK hD ht hW⟩, hS.F ht⟩) hS.2.2 dX5_linear_36
  · rw [if_pos c6] at h
    refine lv_bipush (v := (-2 : Int32)) hx hb dX5_linear_7 (by decide) ?_
    have h0 := Option.some.inj h
    subst h0
    exact W.iret hx hb hr (fun t ht hW => ⟨⟨_, (), rfl, rfl, QW_mk hP hK hD ht hW⟩, hS.F ht⟩) hS.2.2 dX5_linear_9

noncomputable def fX5_isPoint  (p0 : Int32) : Option (Int32) := bd (fX5_in p0 (0 : Int32) (5 : Int32)) fun r1 => some r1
set_option maxHeartbeats 4000000 in
set_option maxRecDepth 100000 in
theorem c_X5_isPoint (l : Launch) (dC : Nat → ClassId) (dI : Nat → Nat → Nat) (cy : ClassId)  (sz : Nat)  (p0 : Int32) (res : Int32) (h : fX5_isPoint p0 = some res) : Met l yX5_isPoint wsX5_isPoint ({ frames := 1, cells := 0, slots := 0, locals := 22 }) (va_Pc [.int p0] (PW (dC, dI) cy sz [])) (va_Qi (fun (r : Int32) (_ : Unit) => r = res ∧ bo r) (QW (dC, dI) cy (va_A [] sz) []) (va_A [] sz)) 0 0 (va_A [] sz) := by
  refine Met.ofW (cc := cX5_isPoint) (maxL := 1) (ret := (some .boolean)) (by decide) rfl ?_
  intro p e s m args below meth c s₁ B hml hv
  obtain ⟨rfl, hsz, hP, hK, hD0, hN⟩ := hv
  have hx := B.exec
  have hb := B.bytes
  have hr := B.returns
  have hts := atoms_spec (ws := wsX5_isPoint) B.pre
  have hown : s.vm.findClass RX5 = some m.cls := findClass_of_methodNamed B.named
  have hlocks := B.notSynchronized
  subst hsz
  have hD := hD0.self (sz := s.heap.size)
  clear hD0
  generalize hAe : va_A [] s.heap.size = A at hD ⊢
  have hA : ∀ q : Nat, s.heap.size ≤ q → A q := fun q h => by rw [← hAe]; exact Or.inr h
  have hS : va_S A s.heap s.heap [] := va_S.rf
  have hl := lv_entry ([.int p0]) (n := 1) (Nat.le_of_ble_eq_true rfl)
  rw [lg_entry_eq]
  generalize (lg_sl ([.int p0]) ++ List.replicate (1 - (lg_sl ([.int p0])).length) Slot.unset).toArray = ls at hl ⊢
  replace hl : lv_has ls 1 [(0, .int p0)] := hl
  replace hP : va_P (dC, dI) vwCl [] s.heap := hP
  obtain ⟨locs, hlocs⟩ : ∃ lc : List Loc, lc = [] := ⟨_, rfl⟩
  rw [← hlocs] at hS ⊢
  obtain ⟨H, hH⟩ : ∃ H : Heap, H = s.heap := ⟨_, rfl⟩
  have hP2 := hP; rw [← hH] at hP2
  have hS2 : va_S A s.heap H locs := by rw [hH]; exact hS
  suffices hgo : W p l e (headSpec wsX5_isPoint ({ frames := 1, cells := 0, slots := 0, locals := 22 })).room s m (([.int p0] : List Value).toArray) below meth c H locs 0 0 (MQ below (va_Qi (fun (r : Int32) (_ : Unit) => r = res ∧ bo r) (QW (dC, dI) cy A []) A) (([.int p0] : List Value).toArray) s 0 0 A) (F0 m 0 ls []) by rw [hH] at hgo; exact hgo
  replace hP := hP2
  replace hS := hS2
  clear hP2 hS2
  unfold fX5_isPoint at h
  refine lv_iload_n hx hb dX5_isPoint_0 rfl (lv_at hl 0 rfl) ?_
  refine lv_iconst (v := (0 : Int32)) hx hb dX5_isPoint_1 (by decide) ?_
  refine lv_iconst (v := (5 : Int32)) hx hb dX5_isPoint_2 (by decide) ?_
  obtain ⟨r1, hr1, h⟩ := bd_some h
  have hFc := va_free (wc := []) hD hS hA [] rfl
  refine va_calli (va_runS (As := [.int p0, .int (0 : Int32), .int (5 : Int32)]) (rest := []) ⟨hx, hb, hml, hown, hts⟩ (c_X5_in l dC dI cy  H.size  p0 (0 : Int32) (5 : Int32) r1 hr1) (va_cwS 3 hts gX5_isPoint_X5_in rfl rfl rfl (by decide +kernel) ⟨Nat.le_of_ble_eq_true rfl, Nat.le_of_ble_eq_true rfl⟩) ⟨PW_fb, PW_pre (hP.sub (ws' := []) [] rfl) hK (hD.sub [] (by decide) rfl) hN⟩ rfl rfl hl.1 rfl (lv_room (Nat.le_of_ble_eq_true rfl)) dX5_isPoint_3 ⟨Nat.zero_le _, Nat.zero_le _⟩) hS (fun q _ h => hFc q h) hFc (fun rz u t H locs ht hvm hw hB hz1 hk1 hS => ?_)
  obtain ⟨hP, hD⟩ := jn (wr := []) (w1 := []) (ws' := []) hP hD [] [] rfl rfl (by decide) (by decide) hk1 hFc hB ht [] rfl (by decide) rfl
  obtain ⟨hw, br1⟩ := hw
  replace hw := hw.symm
  subst hw
  clear hFc hB hk1 hz1 hvm
  have h0 := Option.some.inj h
  subst h0
  exact W.zret (ty := .boolean) hx hb hr br1 (fun t ht hW => ⟨⟨_, (), rfl, ⟨rfl, br1⟩, QW_mk hP hK hD ht hW⟩, hS.F ht⟩) hS.2.2 dX5_isPoint_6

noncomputable def fX5_line (fxj : Nat → Int32) (p0 : Int32) (p1 : Int32) (p2 : Int32) : Option (Int32 × (Nat → Int32)) := bd (fX5_isPoint p0) fun r1 => if r1 = 0 then (some ((-2 : Int32), fxj)) else (bd (fX5_isPoint p1) fun r2 => if r2 = 0 then (some ((-2 : Int32), fxj)) else (if p0 = p1 then (some ((-2 : Int32), fxj)) else (gin p0 6 (bd (if p2 = 0 then (gin p0 6 (some ((fxj p0.toNatClampNeg) &&& (((1 : Int32) <<< (p1 &&& 31)) ^^^ (-1 : Int32))))) else (gin p0 6 (some ((fxj p0.toNatClampNeg) ||| ((1 : Int32) <<< (p1 &&& 31)))))) fun q3 => gin p0 6 (if p2 = 0 then (gin p1 6 (gin p1 6 (some (((fxj p0.toNatClampNeg) >>> (p1 &&& 31)) &&& (1 : Int32), upd (upd fxj p0.toNatClampNeg q3) p1.toNatClampNeg (((upd fxj p0.toNatClampNeg q3) p1.toNatClampNeg) &&& (((1 : Int32) <<< (p0 &&& 31)) ^^^ (-1 : Int32))))))) else (gin p1 6 (gin p1 6 (some (((fxj p0.toNatClampNeg) >>> (p1 &&& 31)) &&& (1 : Int32), upd (upd fxj p0.toNatClampNeg q3) p1.toNatClampNeg (((upd fxj p0.toNatClampNeg q3) p1.toNatClampNeg) ||| ((1 : Int32) <<< (p0 &&& 31))))))))))))
set_option maxHeartbeats 4000000 in
set_option maxRecDepth 100000 in
theorem c_X5_line (l : Launch) (dC : Nat → ClassId) (dI : Nat → Nat → Nat) (cy : ClassId) (ax axr axb axj axi axu : Nat) (sz : Nat) (vxn : Int32) (vxk : Int32) (vxA : Int64) (vxB : Int64) (vxC : Int64) (vxE : Int64) (fxj : Nat → Int32) (p0 : Int32) (p1 : Int32) (p2 : Int32) (res : Int32 × (Nat → Int32)) (h : fX5_line fxj p0 p1 p2 = some res) : Met l yX5_line wsX5_line ({ frames := 2, cells := 0, slots := 0, locals := 42 }) (va_Pc [.ref ax, .int p0, .int p1, .int p2] (PW (dC, dI) cy sz [(ax, .inr (5, [.int vxn, .ref axr, .ref axb, .ref axj, .int vxk, .ref axi, .ref axu, .long vxA, .long vxB, .long vxC, .long vxE])), (axj, .inl (cy, 6, .inl fxj))])) (va_Qi (fun (r : Int32) (_ : Unit) => r = res.1) (QW (dC, dI) cy (va_A [(ax, .inr (5, [.int vxn, .ref axr, .ref axb, .ref axj, .int vxk, .ref axi, .ref axu, .long vxA, .long vxB, .long vxC, .long vxE])), (axj, .inl (cy, 6, .inl fxj))] sz) [(ax, .inr (5, [.int vxn, .ref axr, .ref axb, .ref axj, .int vxk, .ref axi, .ref axu, .long vxA, .long vxB, .long vxC, .long vxE])), (axj, .inl (cy, 6, .inl res.2))]) (va_A [(ax, .inr (5, [.int vxn, .ref axr, .ref axb, .ref axj, .int vxk, .ref axi, .ref axu, .long vxA, .long vxB, .long vxC, .long vxE])), (axj, .inl (cy, 6, .inl fxj))] sz)) 0 0 (va_A [(ax, .inr (5, [.int vxn, .ref axr, .ref axb, .ref axj, .int vxk, .ref axi, .ref axu, .long vxA, .long vxB, .long vxC, .long vxE])), (axj, .inl (cy, 6, .inl fxj))] sz) := by
  refine Met.ofW (cc := cX5_line) (maxL := 5) (ret := (some .int)) (by decide) rfl ?_
  intro p e s m args below meth c s₁ B hml hv
  obtain ⟨rfl, hsz, hP, hK, hD0, hN⟩ := hv
  have hx := B.exec
  have hb := B.bytes
  have hr := B.returns
  have hts := atoms_spec (ws := wsX5_line) B.pre
  have hown : s.vm.findClass RX5 = some m.cls := findClass_of_methodNamed B.named
  have hlocks := B.notSynchronized
  subst hsz
  have hD := hD0.self (sz := s.heap.size)
  clear hD0
  generalize hAe : va_A [(ax, .inr (5, [.int vxn, .ref axr, .ref axb, .ref axj, .int vxk, .ref axi, .ref axu, .long vxA, .long vxB, .long vxC, .long vxE])), (axj, .inl (cy, 6, .inl fxj))] s.heap.size = A at hD ⊢
  have hA : ∀ q : Nat, s.heap.size ≤ q → A q := fun q h => by rw [← hAe]; exact Or.inr h
  have hS : va_S A s.heap s.heap [] := va_S.rf
  have hl := lv_entry ([.ref ax, .int p0, .int p1, .int p2]) (n := 5) (Nat.le_of_ble_eq_true rfl)
  rw [lg_entry_eq]
  generalize (lg_sl ([.ref ax, .int p0, .int p1, .int p2]) ++ List.replicate (5 - (lg_sl ([.ref ax, .int p0, .int p1, .int p2])).length) Slot.unset).toArray = ls at hl ⊢
  replace hl : lv_has ls 5 [(0, .ref ax), (1, .int p0), (2, .int p1), (3, .int p2)] := hl
  replace hP : va_P (dC, dI) vwCl [(ax, .inr (5, [.int vxn, .ref axr, .ref axb, .ref axj, .int vxk, .ref axi, .ref axu, .long vxA, .long vxB, .long vxC, .long vxE])), (axj, .inl (cy, 6, .inl fxj))] s.heap := hP
  obtain ⟨locs, hlocs⟩ : ∃ lc : List Loc, lc = [] := ⟨_, rfl⟩
  rw [← hlocs] at hS ⊢
  obtain ⟨H, hH⟩ : ∃ H : Heap, H = s.heap := ⟨_, rfl⟩
  have hP2 := hP; rw [← hH] at hP2
  have hS2 : va_S A s.heap H locs := by rw [hH]; exact hS
  suffices hgo : W p l e (headSpec wsX5_line ({ frames := 2, cells := 0, slots := 0, locals := 42 })).room s m (([.ref ax, .int p0, .int p1, .int p2] : List Value).toArray) below meth c H locs 0 0 (MQ below (va_Qi (fun (r : Int32) (_ : Unit) => r = res.1) (QW (dC, dI) cy A [(ax, .inr (5, [.int vxn, .ref axr, .ref axb, .ref axj, .int vxk, .ref axi, .ref axu, .long vxA, .long vxB, .long vxC, .long vxE])), (axj, .inl (cy, 6, .inl res.2))]) A) (([.ref ax, .int p0, .int p1, .int p2] : List Value).toArray) s 0 0 A) (F0 m 0 ls []) by rw [hH] at hgo; exact hgo
  replace hP := hP2
  replace hS := hS2
  clear hP2 hS2
  have hin_X5 : ∀ w ∈ wsX50, w ∈ wsX5_line := by decide +kernel
  have hf_20 := hts (.fieldLink RX5 20 "FewLooksModel" "joined" "[I") (by decide +kernel)
  unfold fX5_line at h
  refine lv_iload_n hx hb dX5_line_0 rfl (lv_at hl 1 rfl) ?_
  obtain ⟨r1, hr1, h⟩ := bd_some h
  have hFc := va_free (wc := []) hD hS hA [] rfl
  refine va_calli (va_runS (As := [.int p0]) (rest := []) ⟨hx, hb, hml, hown, hts⟩ (c_X5_isPoint l dC dI cy  H.size  p0 r1 hr1) (va_cwS 1 hts gX5_line_X5_isPoint rfl rfl rfl (by decide +kernel) ⟨Nat.le_of_ble_eq_true rfl, Nat.le_of_ble_eq_true rfl⟩) ⟨PW_fb, PW_pre (hP.sub (ws' := []) [] rfl) hK (hD.sub [] (by decide) rfl) hN⟩ rfl rfl hl.1 rfl (lv_room (Nat.le_of_ble_eq_true rfl)) dX5_line_1 ⟨Nat.zero_le _, Nat.zero_le _⟩) hS (fun q _ h => hFc q h) hFc (fun rz u t H locs ht hvm hw hB hz1 hk1 hS => ?_)
  obtain ⟨hP, hD⟩ := jn (wr := [(ax, .inr (5, [.int vxn, .ref axr, .ref axb, .ref axj, .int vxk, .ref axi, .ref axu, .long vxA, .long vxB, .long vxC, .long vxE])), (axj, .inl (cy, 6, .inl fxj))]) (w1 := []) (ws' := [(ax, .inr (5, [.int vxn, .ref axr, .ref axb, .ref axj, .int vxk, .ref axi, .ref axu, .long vxA, .long vxB, .long vxC, .long vxE])), (axj, .inl (cy, 6, .inl fxj))]) hP hD [] [0, 1] rfl rfl (by decide) (by decide) hk1 hFc hB ht [0, 1] rfl (by decide) rfl
  obtain ⟨hw, br1⟩ := hw
  replace hw := hw.symm
  subst hw
  clear hFc hB hk1 hz1 hvm
  refine lv_if_eq (tgt := 19) hx hb dX5_line_4 (by decide) (fun c8 => ?_) (fun c8 => ?_)
  · rw [if_pos c8] at h
    refine lv_bipush (v := (-2 : Int32)) hx hb dX5_line_19 (by decide) ?_
    have h0 := Option.some.inj h
    subst h0
    exact W.iret hx hb hr (fun t ht hW => ⟨⟨_, (), rfl, rfl, QW_mk hP hK hD ht hW⟩, hS.F ht⟩) hS.2.2 dX5_line_21
  · rw [if_neg c8] at h
    refine lv_iload_n hx hb dX5_line_7 rfl (lv_at hl 2 rfl) ?_
    obtain ⟨r2, hr2, h⟩ := bd_some h
    have hFc := va_free (wc := []) hD hS hA [] rfl
    refine va_calli (va_runS (As := [.int p1]) (rest := []) ⟨hx, hb, hml, hown, hts⟩ (c_X5_isPoint l dC dI cy  H.size  p1 r2 hr2) (va_cwS 1 hts gX5_line_X5_isPoint rfl rfl rfl (by decide +kernel) ⟨Nat.le_of_ble_eq_true rfl, Nat.le_of_ble_eq_true rfl⟩) ⟨PW_fb, PW_pre (hP.sub (ws' := []) [] rfl) hK (hD.sub [] (by decide) rfl) hN⟩ rfl rfl hl.1 rfl (lv_room (Nat.le_of_ble_eq_true rfl)) dX5_line_8 ⟨Nat.zero_le _, Nat.zero_le _⟩) hS (fun q _ h => hFc q h) hFc (fun rz u t H locs ht hvm hw hB hz1 hk1 hS => ?_)
    obtain ⟨hP, hD⟩ := jn (wr := [(ax, .inr (5, [.int vxn, .ref axr, .ref axb, .ref axj, .int vxk, .ref axi, .ref axu, .long vxA, .long vxB, .long vxC, .long vxE])), (axj, .inl (cy, 6, .inl fxj))]) (w1 := []) (ws' := [(ax, .inr (5, [.int vxn, .ref axr, .ref axb, .ref axj, .int vxk, .ref axi, .ref axu, .long vxA, .long vxB, .long vxC, .long vxE])), (axj, .inl (cy, 6, .inl fxj))]) hP hD [] [0, 1] rfl rfl (by decide) (by decide) hk1 hFc hB ht [0, 1] rfl (by decide) rfl
    obtain ⟨hw, br2⟩ := hw
    replace hw := hw.symm
    subst hw
    clear hFc hB hk1 hz1 hvm
    refine lv_if_eq (tgt := 19) hx hb dX5_line_11 (by decide) (fun c7 => ?_) (fun c7 => ?_)
    · rw [if_pos c7] at h
      refine lv_bipush (v := (-2 : Int32)) hx hb dX5_line_19 (by decide) ?_
      have h0 := Option.some.inj h
      subst h0
      exact W.iret hx hb hr (fun t ht hW => ⟨⟨_, (), rfl, rfl, QW_mk hP hK hD ht hW⟩, hS.F ht⟩) hS.2.2 dX5_line_21
    · rw [if_neg c7] at h
      refine lv_iload_n hx hb dX5_line_14 rfl (lv_at hl 1 rfl) ?_
      refine lv_iload_n hx hb dX5_line_15 rfl (lv_at hl 2 rfl) ?_
      refine lv_icmp_ne (tgt := 22) hx hb dX5_line_16 (by decide) (fun c6 => ?_) (fun c6 => ?_)
      · rw [if_neg c6] at h
        refine lv_aload_n hx hb dX5_line_22 rfl (lv_at hl 0 rfl) ?_
        refine va_get (D := (dC, dI)) (ci := 5) (v := .ref axj) (C := RX5) (T := TX5) (N := 11) hx hb hts hin_X5 hown hK hP 0 rfl rfl 3 (by decide) (hf_20) (fun _ h9 => h9) rfl dX5_line_23 ?_
        refine lv_iload_n hx hb dX5_line_26 rfl (lv_at hl 1 rfl) ?_
        obtain ⟨hi, h⟩ := gin_some h
        refine va_iald hx hb hK hP 1 0 rfl rfl hi dX5_line_27 ?_
        refine lv_iload_n hx hb dX5_line_28 rfl (lv_at hl 2 rfl) ?_
        refine lv_ishr hx hb dX5_line_29 ?_
        refine lv_iconst (v := (1 : Int32)) hx hb dX5_line_30 (by decide) ?_
        refine lv_iand hx hb dX5_line_31 ?_
        refine lv_istore (lv' := [(4, .int (((fxj p0.toNatClampNeg) >>> (p1 &&& 31)) &&& (1 : Int32))), (0, .ref ax), (1, .int p0), (2, .int p1), (3, .int p2)]) hx hb dX5_line_32 hl (by decide) rfl (fun ls hl => ?_)
        refine lv_aload_n hx hb dX5_line_34 rfl (lv_at hl 1 rfl) ?_
        refine va_get (D := (dC, dI)) (ci := 5) (v := .ref axj) (C := RX5) (T := TX5) (N := 11) hx hb hts hin_X5 hown hK hP 0 rfl rfl 3 (by decide) (hf_20) (fun _ h9 => h9) rfl dX5_line_35 ?_
        refine lv_iload_n hx hb dX5_line_38 rfl (lv_at hl 2 rfl) ?_
        refine lv_iload_n hx hb dX5_line_39 rfl (lv_at hl 4 rfl) ?_
        obtain ⟨q3, hq3, h⟩ := bd_some h
        have Jq3 : ∀ (H : Heap) (locs : List Loc) (ls : Array Slot), lv_has ls 5 [(0, .ref ax), (1, .int p0), (2, .int p1), (3, .int p2), (4, .int (((fxj p0.toNatClampNeg) >>> (p1 &&& 31)) &&& (1 : Int32)))] → va_P (dC, dI) vwCl [(ax, .inr (5, [.int vxn, .ref axr, .ref axb, .ref axj, .int vxk, .ref axi, .ref axu, .long vxA, .long vxB, .long vxC, .long vxE])), (axj, .inl (cy, 6, .inl fxj))] H → va_D A [(ax, .inr (5, [.int vxn, .ref axr, .ref axb, .ref axj, .int vxk, .ref axi, .ref axu, .long vxA, .long vxB, .long vxC, .long vxE])), (axj, .inl (cy, 6, .inl fxj))] → va_S A s.heap H locs → W p l e (headSpec wsX5_line ({ frames := 2, cells := 0, slots := 0, locals := 42 })).room s m (([.ref ax, .int p0, .int p1, .int p2] : List Value).toArray) below meth c H locs 0 0 (MQ below (va_Qi (fun (r : Int32) (_ : Unit) => r = res.1) (QW (dC, dI) cy A [(ax, .inr (5, [.int vxn, .ref axr, .ref axb, .ref axj, .int vxk, .ref axi, .ref axu, .long vxA, .long vxB, .long vxC, .long vxE])), (axj, .inl (cy, 6, .inl res.2))]) A) (([.ref ax, .int p0, .int p1, .int p2] : List Value).toArray) s 0 0 A) (F0 m 68 ls [.int q3, .int p0, .ref axj]) := by
          intro H locs ls hl hP hD hS
          obtain ⟨hi, h⟩ := gin_some h
          refine va_iast hx hb hK hP hD hS 1 0 rfl rfl hi dX5_line_68 (fun H locs hP hD hS => ?_)
          replace hP : va_P (dC, dI) vwCl [(ax, .inr (5, [.int vxn, .ref axr, .ref axb, .ref axj, .int vxk, .ref axi, .ref axu, .long vxA, .long vxB, .long vxC, .long vxE])), (axj, .inl (cy, 6, .inl (upd fxj p0.toNatClampNeg q3)))] H := hP
          replace hD : va_D A [(ax, .inr (5, [.int vxn, .ref axr, .ref axb, .ref axj, .int vxk, .ref axi, .ref axu, .long vxA, .long vxB, .long vxC, .long vxE])), (axj, .inl (cy, 6, .inl (upd fxj p0.toNatClampNeg q3)))] := hD
          refine lv_aload_n hx hb dX5_line_69 rfl (lv_at hl 0 rfl) ?_
          refine va_get (D := (dC, dI)) (ci := 5) (v := .ref axj) (C := RX5) (T := TX5) (N := 11) hx hb hts hin_X5 hown hK hP 0 rfl rfl 3 (by decide) (hf_20) (fun _ h9 => h9) rfl dX5_line_70 ?_
          refine lv_iload_n hx hb dX5_line_73 rfl (lv_at hl 2 rfl) ?_
          refine lv_iload_n hx hb dX5_line_74 rfl (lv_at hl 3 rfl) ?_
          refine lv_if_eq (tgt := 91) hx hb dX5_line_75 (by decide) (fun c5 => ?_) (fun c5 => ?_)
          · rw [if_pos c5] at h
            refine lv_aload_n hx hb dX5_line_91 rfl (lv_at hl 0 rfl) ?_
            refine va_get (D := (dC, dI)) (ci := 5) (v := .ref axj) (C := RX5) (T := TX5) (N := 11) hx hb hts hin_X5 hown hK hP 0 rfl rfl 3 (by decide) (hf_20) (fun _ h9 => h9) rfl dX5_line_92 ?_
            refine lv_iload_n hx hb dX5_line_95 rfl (lv_at hl 2 rfl) ?_
            obtain ⟨hi, h⟩ := gin_some h
            refine va_iald hx hb hK hP 1 0 rfl rfl hi dX5_line_96 ?_
            refine lv_iconst (v := (1 : Int32)) hx hb dX5_line_97 (by decide) ?_
            refine lv_iload_n hx hb dX5_line_98 rfl (lv_at hl 1 rfl) ?_
            refine lv_ishl hx hb dX5_line_99 ?_
            refine lv_iconst (v := (-1 : Int32)) hx hb dX5_line_100 (by decide) ?_
            refine lv_ixor hx hb dX5_line_101 ?_
            refine lv_iand hx hb dX5_line_102 ?_
            obtain ⟨hi, h⟩ := gin_some h
            refine va_iast hx hb hK hP hD hS 1 0 rfl rfl hi dX5_line_103 (fun H locs hP hD hS => ?_)
            replace hP : va_P (dC, dI) vwCl [(ax, .inr (5, [.int vxn, .ref axr, .ref axb, .ref axj, .int vxk, .ref axi, .ref axu, .long vxA, .long vxB, .long vxC, .long vxE])), (axj, .inl (cy, 6, .inl (upd (upd fxj p0.toNatClampNeg q3) p1.toNatClampNeg (((upd fxj p0.toNatClampNeg q3) p1.toNatClampNeg) &&& (((1 : Int32) <<< (p0 &&& 31)) ^^^ (-1 : Int32))))))] H := hP
            replace hD : va_D A [(ax, .inr (5, [.int vxn, .ref axr, .ref axb, .ref axj, .int vxk, .ref axi, .ref axu, .long vxA, .long vxB, .long vxC, .long vxE])), (axj, .inl (cy, 6, .inl (upd (upd fxj p0.toNatClampNeg q3) p1.toNatClampNeg (((upd fxj p0.toNatClampNeg q3) p1.toNatClampNeg) &&& (((1 : Int32) <<< (p0 &&& 31)) ^^^ (-1 : Int32))))))] := hD
            refine lv_iload hx hb dX5_line_104 (lv_at hl 4 rfl) ?_
            have h0 := Option.some.inj h
            subst h0
            exact W.iret hx hb hr (fun t ht hW => ⟨⟨_, (), rfl, rfl, QW_mk hP hK hD ht hW⟩, hS.F ht⟩) hS.2.2 dX5_line_106
          · rw [if_neg c5] at h
            refine lv_aload_n hx hb dX5_line_78 rfl (lv_at hl 0 rfl) ?_
            refine va_get (D := (dC, dI)) (ci := 5) (v := .ref axj) (C := RX5) (T := TX5) (N := 11) hx hb hts hin_X5 hown hK hP 0 rfl rfl 3 (by decide) (hf_20) (fun _ h9 => h9) rfl dX5_line_79 ?_
            refine lv_iload_n hx hb dX5_line_82 rfl (lv_at hl 2 rfl) ?_
            obtain ⟨hi, h⟩ := gin_some h
            refine va_iald hx hb hK hP 1 0 rfl rfl hi dX5_line_83 ?_
            refine lv_iconst (v := (1 : Int32)) hx hb dX5_line_84 (by decide) ?_
            refine lv_iload_n hx hb dX5_line_85 rfl (lv_at hl 1 rfl) ?_
            refine lv_ishl hx hb dX5_line_86 ?_
            refine lv_ior hx hb dX5_line_87 ?_
            refine lv_goto (tgt := 103) hx hb dX5_line_88 (by decide) ?_
            obtain ⟨hi, h⟩ := gin_some h
            refine va_iast hx hb hK hP hD hS 1 0 rfl rfl hi dX5_line_103 (fun H locs hP hD hS => ?_)
            replace hP : va_P (dC, dI) vwCl [(ax, .inr (5, [.int vxn, .ref axr, .ref axb, .ref axj, .int vxk, .ref axi, .ref axu, .long vxA, .long vxB, .long vxC, .long vxE])), (axj, .inl (cy, 6, .inl (upd (upd fxj p0.toNatClampNeg q3) p1.toNatClampNeg (((upd fxj p0.toNatClampNeg q3) p1.toNatClampNeg) ||| ((1 : Int32) <<< (p0 &&& 31))))))] H := hP
            replace hD : va_D A [(ax, .inr (5, [.int vxn, .ref axr, .ref axb, .ref axj, .int vxk, .ref axi, .ref axu, .long vxA, .long vxB, .long vxC, .long vxE])), (axj, .inl (cy, 6, .inl (upd (upd fxj p0.toNatClampNeg q3) p1.toNatClampNeg (((upd fxj p0.toNatClampNeg q3) p1.toNatClampNeg) ||| ((1 : Int32) <<< (p0 &&& 31))))))] := hD
            refine lv_iload hx hb dX5_line_104 (lv_at hl 4 rfl) ?_
            have h0 := Option.some.inj h
            subst h0
            exact W.iret hx hb hr (fun t ht hW => ⟨⟨_, (), rfl, rfl, QW_mk hP hK hD ht hW⟩, hS.F ht⟩) hS.2.2 dX5_line_106
        replace h := hq3
        refine lv_if_eq (tgt := 56) hx hb dX5_line_40 (by decide) (fun c4 => ?_) (fun c4 => ?_)
        · rw [if_pos c4] at h
          refine lv_aload_n hx hb dX5_line_56 rfl (lv_at hl 1 rfl) ?_
          refine va_get (D := (dC, dI)) (ci := 5) (v := .ref axj) (C := RX5) (T := TX5) (N := 11) hx hb hts hin_X5 hown hK hP 0 rfl rfl 3 (by decide) (hf_20) (fun _ h9 => h9) rfl dX5_line_57 ?_
          refine lv_iload_n hx hb dX5_line_60 rfl (lv_at hl 2 rfl) ?_
          obtain ⟨hi, h⟩ := gin_some h
          refine va_iald hx hb hK hP 1 0 rfl rfl hi dX5_line_61 ?_
          refine lv_iconst (v := (1 : Int32)) hx hb dX5_line_62 (by decide) ?_
          refine lv_iload_n hx hb dX5_line_63 rfl (lv_at hl 3 rfl) ?_
          refine lv_ishl hx hb dX5_line_64 ?_
          refine lv_iconst (v := (-1 : Int32)) hx hb dX5_line_65 (by decide) ?_
          refine lv_ixor hx hb dX5_line_66 ?_
          refine lv_iand hx hb dX5_line_67 ?_
          have h0 := Option.some.inj h
          subst h0
          exact Jq3 H locs ls (lv_sub hl [1, 2, 3, 4, 0] rfl) hP hD hS
        · rw [if_neg c4] at h
          refine lv_aload_n hx hb dX5_line_43 rfl (lv_at hl 1 rfl) ?_
          refine va_get (D := (dC, dI)) (ci := 5) (v := .ref axj) (C := RX5) (T := TX5) (N := 11) hx hb hts hin_X5 hown hK hP 0 rfl rfl 3 (by decide) (hf_20) (fun _ h9 => h9) rfl dX5_line_44 ?_
          refine lv_iload_n hx hb dX5_line_47 rfl (lv_at hl 2 rfl) ?_
          obtain ⟨hi, h⟩ := gin_some h
          refine va_iald hx hb hK hP 1 0 rfl rfl hi dX5_line_48 ?_
          refine lv_iconst (v := (1 : Int32)) hx hb dX5_line_49 (by decide) ?_
          refine lv_iload_n hx hb dX5_line_50 rfl (lv_at hl 3 rfl) ?_
          refine lv_ishl hx hb dX5_line_51 ?_
          refine lv_ior hx hb dX5_line_52 ?_
          refine lv_goto (tgt := 68) hx hb dX5_line_53 (by decide) ?_
          have h0 := Option.some.inj h
          subst h0
          exact Jq3 H locs ls (lv_sub hl [1, 2, 3, 4, 0] rfl) hP hD hS
      · rw [if_pos c6] at h
        refine lv_bipush (v := (-2 : Int32)) hx hb dX5_line_19 (by decide) ?_
        have h0 := Option.some.inj h
        subst h0
        exact W.iret hx hb hr (fun t ht hW => ⟨⟨_, (), rfl, rfl, QW_mk hP hK hD ht hW⟩, hS.F ht⟩) hS.2.2 dX5_line_21

noncomputable def fX5_draw (vxk : Int32) (p0 : Int32) : Option (Int32 × Int32) := bd (fX5_in p0 (1 : Int32) (6 : Int32)) fun r1 => if r1 = 0 then (some ((-2 : Int32), vxk)) else (some (vxk, p0))
set_option maxHeartbeats 4000000 in
set_option maxRecDepth 100000 in
theorem c_X5_draw (l : Launch) (dC : Nat → ClassId) (dI : Nat → Nat → Nat) (cy : ClassId) (ax axr axb axj axi axu : Nat) (sz : Nat) (vxn : Int32) (vxk : Int32) (vxA : Int64) (vxB : Int64) (vxC : Int64) (vxE : Int64) (p0 : Int32) (res : Int32 × Int32) (h : fX5_draw vxk p0 = some res) : Met l yX5_draw wsX5_draw ({ frames := 1, cells := 0, slots := 0, locals := 22 }) (va_Pc [.ref ax, .int p0] (PW (dC, dI) cy sz [(ax, .inr (5, [.int vxn, .ref axr, .ref axb, .ref axj, .int vxk, .ref axi, .ref axu, .long vxA, .long vxB, .long vxC, .long vxE]))])) (va_Qi (fun (r : Int32) (_ : Unit) => r = res.1) (QW (dC, dI) cy (va_A [(ax, .inr (5, [.int vxn, .ref axr, .ref axb, .ref axj, .int vxk, .ref axi, .ref axu, .long vxA, .long vxB, .long vxC, .long vxE]))] sz) [(ax, .inr (5, [.int vxn, .ref axr, .ref axb, .ref axj, .int res.2, .ref axi, .ref axu, .long vxA, .long vxB, .long vxC, .long vxE]))]) (va_A [(ax, .inr (5, [.int vxn, .ref axr, .ref axb, .ref axj, .int vxk, .ref axi, .ref axu, .long vxA, .long vxB, .long vxC, .long vxE]))] sz)) 0 0 (va_A [(ax, .inr (5, [.int vxn, .ref axr, .ref axb, .ref axj, .int vxk, .ref axi, .ref axu, .long vxA, .long vxB, .long vxC, .long vxE]))] sz) := by
  refine Met.ofW (cc := cX5_draw) (maxL := 3) (ret := (some .int)) (by decide) rfl ?_
  intro p e s m args below meth c s₁ B hml hv
  obtain ⟨rfl, hsz, hP, hK, hD0, hN⟩ := hv
  have hx := B.exec
  have hb := B.bytes
  have hr := B.returns
  have hts := atoms_spec (ws := wsX5_draw) B.pre
  have hown : s.vm.findClass RX5 = some m.cls := findClass_of_methodNamed B.named
  have hlocks := B.notSynchronized
  subst hsz
  have hD := hD0.self (sz := s.heap.size)
  clear hD0
  generalize hAe : va_A [(ax, .inr (5, [.int vxn, .ref axr, .ref axb, .ref axj, .int vxk, .ref axi, .ref axu, .long vxA, .long vxB, .long vxC, .long vxE]))] s.heap.size = A at hD ⊢
  have hA : ∀ q : Nat, s.heap.size ≤ q → A q := fun q h => by rw [← hAe]; exact Or.inr h
  have hS : va_S A s.heap s.heap [] := va_S.rf
  have hl := lv_entry ([.ref ax, .int p0]) (n := 3) (Nat.le_of_ble_eq_true rfl)
  rw [lg_entry_eq]
  generalize (lg_sl ([.ref ax, .int p0]) ++ List.replicate (3 - (lg_sl ([.ref ax, .int p0])).length) Slot.unset).toArray = ls at hl ⊢
  replace hl : lv_has ls 3 [(0, .ref ax), (1, .int p0)] := hl
  replace hP : va_P (dC, dI) vwCl [(ax, .inr (5, [.int vxn, .ref axr, .ref axb, .ref axj, .int vxk, .ref axi, .ref axu, .long vxA, .long vxB, .long vxC, .long vxE]))] s.heap := hP
  obtain ⟨locs, hlocs⟩ : ∃ lc : List Loc, lc = [] := ⟨_, rfl⟩
  rw [← hlocs] at hS ⊢
  obtain ⟨H, hH⟩ : ∃ H : Heap, H = s.heap := ⟨_, rfl⟩
  have hP2 := hP; rw [← hH] at hP2
  have hS2 : va_S A s.heap H locs := by rw [hH]; exact hS
  suffices hgo : W p l e (headSpec wsX5_draw ({ frames := 1, cells := 0, slots := 0, locals := 22 })).room s m (([.ref ax, .int p0] : List Value).toArray) below meth c H locs 0 0 (MQ below (va_Qi (fun (r : Int32) (_ : Unit) => r = res.1) (QW (dC, dI) cy A [(ax, .inr (5, [.int vxn, .ref axr, .ref axb, .ref axj, .int res.2, .ref axi, .ref axu, .long vxA, .long vxB, .long vxC, .long vxE]))]) A) (([.ref ax, .int p0] : List Value).toArray) s 0 0 A) (F0 m 0 ls []) by rw [hH] at hgo; exact hgo
  replace hP := hP2
  replace hS := hS2
  clear hP2 hS2
  have hin_X5 : ∀ w ∈ wsX50, w ∈ wsX5_draw := by decide +kernel
  have hf_23 := hts (.fieldLink RX5 23 "FewLooksModel" "k" "I") (by decide +kernel)
  unfold fX5_draw at h
  refine lv_iload_n hx hb dX5_draw_0 rfl (lv_at hl 1 rfl) ?_
  refine lv_iconst (v := (1 : Int32)) hx hb dX5_draw_1 (by decide) ?_
  refine lv_bipush (v := (6 : Int32)) hx hb dX5_draw_2 (by decide) ?_
  obtain ⟨r1, hr1, h⟩ := bd_some h
  have hFc := va_free (wc := []) hD hS hA [] rfl
  refine va_calli (va_runS (As := [.int p0, .int (1 : Int32), .int (6 : Int32)]) (rest := []) ⟨hx, hb, hml, hown, hts⟩ (c_X5_in l dC dI cy  H.size  p0 (1 : Int32) (6 : Int32) r1 hr1) (va_cwS 3 hts gX5_draw_X5_in rfl rfl rfl (by decide +kernel) ⟨Nat.le_of_ble_eq_true rfl, Nat.le_of_ble_eq_true rfl⟩) ⟨PW_fb, PW_pre (hP.sub (ws' := []) [] rfl) hK (hD.sub [] (by decide) rfl) hN⟩ rfl rfl hl.1 rfl (lv_room (Nat.le_of_ble_eq_true rfl)) dX5_draw_4 ⟨Nat.zero_le _, Nat.zero_le _⟩) hS (fun q _ h => hFc q h) hFc (fun rz u t H locs ht hvm hw hB hz1 hk1 hS => ?_)
  obtain ⟨hP, hD⟩ := jn (wr := [(ax, .inr (5, [.int vxn, .ref axr, .ref axb, .ref axj, .int vxk, .ref axi, .ref axu, .long vxA, .long vxB, .long vxC, .long vxE]))]) (w1 := []) (ws' := [(ax, .inr (5, [.int vxn, .ref axr, .ref axb, .ref axj, .int vxk, .ref axi, .ref axu, .long vxA, .long vxB, .long vxC, .long vxE]))]) hP hD [] [0] rfl rfl (by decide) (by decide) hk1 hFc hB ht [0] rfl (by decide) rfl
  obtain ⟨hw, br1⟩ := hw
  replace hw := hw.symm
  subst hw
  clear hFc hB hk1 hz1 hvm
  refine lv_if_ne (tgt := 13) hx hb dX5_draw_7 (by decide) (fun c2 => ?_) (fun c2 => ?_)
  · rw [if_neg c2] at h
    refine lv_aload_n hx hb dX5_draw_13 rfl (lv_at hl 0 rfl) ?_
    refine va_get (D := (dC, dI)) (ci := 5) (v := .int vxk) (C := RX5) (T := TX5) (N := 11) hx hb hts hin_X5 hown hK hP 0 rfl rfl 4 (by decide) (hf_23) (fun _ h9 => h9) rfl dX5_draw_14 ?_
    refine lv_istore_n (lv' := [(2, .int vxk), (0, .ref ax), (1, .int p0)]) hx hb dX5_draw_17 rfl hl (by decide) rfl (fun ls hl => ?_)
    refine lv_aload_n hx hb dX5_draw_18 rfl (lv_at hl 1 rfl) ?_
    refine lv_iload_n hx hb dX5_draw_19 rfl (lv_at hl 2 rfl) ?_
    refine va_put (D := (dC, dI)) (ci := 5) (v := .int p0) (ty := .int) (C := RX5) (T := TX5) (N := 11) hx hb hts hin_X5 tyX5 tyX5_ok nmX5 hown hK hP hD hS 0 rfl rfl 4 (by decide) (hf_23) (fun _ h9 => h9) rfl (by decide +kernel) rfl rfl (Nat.le_of_ble_eq_true rfl) dX5_draw_20 (fun H locs hP hD hS => ?_)
    replace hP : va_P (dC, dI) vwCl [(ax, .inr (5, [.int vxn, .ref axr, .ref axb, .ref axj, .int p0, .ref axi, .ref axu, .long vxA, .long vxB, .long vxC, .long vxE]))] H := hP
    replace hD : va_D A [(ax, .inr (5, [.int vxn, .ref axr, .ref axb, .ref axj, .int p0, .ref axi, .ref axu, .long vxA, .long vxB, .long vxC, .long vxE]))] := hD
    refine lv_iload_n hx hb dX5_draw_23 rfl (lv_at hl 0 rfl) ?_
    have h0 := Option.some.inj h
    subst h0
    exact W.iret hx hb hr (fun t ht hW => ⟨⟨_, (), rfl, rfl, QW_mk hP hK hD ht hW⟩, hS.F ht⟩) hS.2.2 dX5_draw_24
  · rw [if_pos c2] at h
    refine lv_bipush (v := (-2 : Int32)) hx hb dX5_draw_10 (by decide) ?_
    have h0 := Option.some.inj h
    subst h0
    exact W.iret hx hb hr (fun t ht hW => ⟨⟨_, (), rfl, rfl, QW_mk hP hK hD ht hW⟩, hS.F ht⟩) hS.2.2 dX5_draw_12

noncomputable def fX5_takeRow_L2 (n : Nat) (l1 : Int32) (vxn : Int32) (fxr : Nat → Int32) (fxi : Nat → Int32) : Option (Int32 × (Nat → Int32)) := match n with
  | 0 => none
  | n + 1 => if vxn ≤ l1 then (some (l1, fxi)) else (gin l1 8 (gin l1 8 (fX5_takeRow_L2 n (l1 + (1 : Int32)) vxn fxr (upd fxi l1.toNatClampNeg (fxr l1.toNatClampNeg)))))
theorem fX5_takeRow_L2_0 (l1 : Int32) (vxn : Int32) (fxr : Nat → Int32) (fxi : Nat → Int32) : fX5_takeRow_L2 0 l1 vxn fxr fxi = none := rfl
theorem fX5_takeRow_L2_s (n : Nat) (l1 : Int32) (vxn : Int32) (fxr : Nat → Int32) (fxi : Nat → Int32) : fX5_takeRow_L2 (n + 1) l1 vxn fxr fxi = if vxn ≤ l1 then (some (l1, fxi)) else (gin l1 8 (gin l1 8 (fX5_takeRow_L2 n (l1 + (1 : Int32)) vxn fxr (upd fxi l1.toNatClampNeg (fxr l1.toNatClampNeg))))) := rfl
noncomputable def fX5_takeRow (vxn : Int32) (fxr : Nat → Int32) (fxi : Nat → Int32)  : Option ((Nat → Int32)) := bd (fX5_takeRow_L2 FU (0 : Int32) vxn fxr fxi) fun q3 => some q3.2
set_option maxHeartbeats 4000000 in
set_option maxRecDepth 100000 in
theorem c_X5_takeRow (l : Launch) (dC : Nat → ClassId) (dI : Nat → Nat → Nat) (cy : ClassId) (ax axr axb axj axi axu : Nat) (sz : Nat) (vxn : Int32) (vxk : Int32) (vxA : Int64) (vxB : Int64) (vxC : Int64) (vxE : Int64) (fxr : Nat → Int32) (fxi : Nat → Int32)  (res : (Nat → Int32)) (h : fX5_takeRow vxn fxr fxi = some res) : Met l yX5_takeRow wsX5_takeRow ({ frames := 0, cells := 0, slots := 0, locals := 0 }) (va_Pc [.ref ax] (PW (dC, dI) cy sz [(ax, .inr (5, [.int vxn, .ref axr, .ref axb, .ref axj, .int vxk, .ref axi, .ref axu, .long vxA, .long vxB, .long vxC, .long vxE])), (axr, .inl (cy, 8, .inl fxr)), (axi, .inl (cy, 8, .inl fxi))])) (va_Qv (fun (_ : Unit) => True) (QW (dC, dI) cy (va_A [(ax, .inr (5, [.int vxn, .ref axr, .ref axb, .ref axj, .int vxk, .ref axi, .ref axu, .long vxA, .long vxB, .long vxC, .long vxE])), (axr, .inl (cy, 8, .inl fxr)), (axi, .inl (cy, 8, .inl fxi))] sz) [(ax, .inr (5, [.int vxn, .ref axr, .ref axb, .ref axj, .int vxk, .ref axi, .ref axu, .long vxA, .long vxB, .long vxC, .long vxE])), (axr, .inl (cy, 8, .inl fxr)), (axi, .inl (cy, 8, .inl res))]) (va_A [(ax, .inr (5, [.int vxn, .ref axr, .ref axb, .ref axj, .int vxk, .ref axi, .ref axu, .long vxA, .long vxB, .long vxC, .long vxE])), (axr, .inl (cy, 8, .inl fxr)), (axi, .inl (cy, 8, .inl fxi))] sz)) 0 0 (va_A [(ax, .inr (5, [.int vxn, .ref axr, .ref axb, .ref axj, .int vxk, .ref axi, .ref axu, .long vxA, .long vxB, .long vxC, .long vxE])), (axr, .inl (cy, 8, .inl fxr)), (axi, .inl (cy, 8, .inl fxi))] sz) := by
  refine Met.ofW (cc := cX5_takeRow) (maxL := 2) (ret := none) (by decide) rfl ?_
  intro p e s m args below meth c s₁ B hml hv
  obtain ⟨rfl, hsz, hP, hK, hD0, hN⟩ := hv
  have hx := B.exec
  have hb := B.bytes
  have hr := B.returns
  have hts := atoms_spec (ws := wsX5_takeRow) B.pre
  have hown : s.vm.findClass RX5 = some m.cls := findClass_of_methodNamed B.named
  have hlocks := B.notSynchronized
  subst hsz
  have hD := hD0.self (sz := s.heap.size)
  clear hD0
  generalize hAe : va_A [(ax, .inr (5, [.int vxn, .ref axr, .ref axb, .ref axj, .int vxk, .ref axi, .ref axu, .long vxA, .long vxB, .long vxC, .long vxE])), (axr, .inl (cy, 8, .inl fxr)), (axi, .inl (cy, 8, .inl fxi))] s.heap.size = A at hD ⊢
  have hA : ∀ q : Nat, s.heap.size ≤ q → A q := fun q h => by rw [← hAe]; exact Or.inr h
  have hS : va_S A s.heap s.heap [] := va_S.rf
  have hl := lv_entry ([.ref ax]) (n := 2) (Nat.le_of_ble_eq_true rfl)
  rw [lg_entry_eq]
  generalize (lg_sl ([.ref ax]) ++ List.replicate (2 - (lg_sl ([.ref ax])).length) Slot.unset).toArray = ls at hl ⊢
  replace hl : lv_has ls 2 [(0, .ref ax)] := hl
  replace hP : va_P (dC, dI) vwCl [(ax, .inr (5, [.int vxn, .ref axr, .ref axb, .ref axj, .int vxk, .ref axi, .ref axu, .long vxA, .long vxB, .long vxC, .long vxE])), (axr, .inl (cy, 8, .inl fxr)), (axi, .inl (cy, 8, .inl fxi))] s.heap := hP
  obtain ⟨locs, hlocs⟩ : ∃ lc : List Loc, lc = [] := ⟨_, rfl⟩
  rw [← hlocs] at hS ⊢
  obtain ⟨H, hH⟩ : ∃ H : Heap, H = s.heap := ⟨_, rfl⟩
  have hP2 := hP; rw [← hH] at hP2
  have hS2 : va_S A s.heap H locs := by rw [hH]; exact hS
  suffices hgo : W p l e (headSpec wsX5_takeRow ({ frames := 0, cells := 0, slots := 0, locals := 0 })).room s m (([.ref ax] : List Value).toArray) below meth c H locs 0 0 (MQ below (va_Qv (fun (_ : Unit) => True) (QW (dC, dI) cy A [(ax, .inr (5, [.int vxn, .ref axr, .ref axb, .ref axj, .int vxk, .ref axi, .ref axu, .long vxA, .long vxB, .long vxC, .long vxE])), (axr, .inl (cy, 8, .inl fxr)), (axi, .inl (cy, 8, .inl res))]) A) (([.ref ax] : List Value).toArray) s 0 0 A) (F0 m 0 ls []) by rw [hH] at hgo; exact hgo
  replace hP := hP2
  replace hS := hS2
  clear hP2 hS2
  have hin_X5 : ∀ w ∈ wsX50, w ∈ wsX5_takeRow := by decide +kernel
  have hf_7 := hts (.fieldLink RX5 7 "FewLooksModel" "n" "I") (by decide +kernel)
  have hf_13 := hts (.fieldLink RX5 13 "FewLooksModel" "row" "[I") (by decide +kernel)
  have hf_26 := hts (.fieldLink RX5 26 "FewLooksModel" "it" "[I") (by decide +kernel)
  unfold fX5_takeRow at h
  refine lv_iconst (v := (0 : Int32)) hx hb dX5_takeRow_0 (by decide) ?_
  refine lv_istore_n (lv' := [(1, .int (0 : Int32)), (0, .ref ax)]) hx hb dX5_takeRow_1 rfl hl (by decide) rfl (fun ls hl => ?_)
  have L2_1 : ∀ (n : Nat) (l1 : Int32) (fxi : Nat → Int32) (rs : (Int32 × (Nat → Int32))) (H : Heap) (locs : List Loc) (ls : Array Slot), fX5_takeRow_L2 n l1 vxn fxr fxi = some rs → lv_has ls 2 [(0, .ref ax), (1, .int l1)] → va_P (dC, dI) vwCl [(ax, .inr (5, [.int vxn, .ref axr, .ref axb, .ref axj, .int vxk, .ref axi, .ref axu, .long vxA, .long vxB, .long vxC, .long vxE])), (axr, .inl (cy, 8, .inl fxr)), (axi, .inl (cy, 8, .inl fxi))] H → va_D A [(ax, .inr (5, [.int vxn, .ref axr, .ref axb, .ref axj, .int vxk, .ref axi, .ref axu, .long vxA, .long vxB, .long vxC, .long vxE])), (axr, .inl (cy, 8, .inl fxr)), (axi, .inl (cy, 8, .inl fxi))] → va_S A s.heap H locs → (∀ (H : Heap) (locs : List Loc) (ls : Array Slot), lv_has ls 2 [(0, .ref ax), (1, .int rs.1)] → va_P (dC, dI) vwCl [(ax, .inr (5, [.int vxn, .ref axr, .ref axb, .ref axj, .int vxk, .ref axi, .ref axu, .long vxA, .long vxB, .long vxC, .long vxE])), (axr, .inl (cy, 8, .inl fxr)), (axi, .inl (cy, 8, .inl rs.2))] H → va_D A [(ax, .inr (5, [.int vxn, .ref axr, .ref axb, .ref axj, .int vxk, .ref axi, .ref axu, .long vxA, .long vxB, .long vxC, .long vxE])), (axr, .inl (cy, 8, .inl fxr)), (axi, .inl (cy, 8, .inl rs.2))] → va_S A s.heap H locs → W p l e (headSpec wsX5_takeRow ({ frames := 0, cells := 0, slots := 0, locals := 0 })).room s m (([.ref ax] : List Value).toArray) below meth c H locs 0 0 (MQ below (va_Qv (fun (_ : Unit) => True) (QW (dC, dI) cy A [(ax, .inr (5, [.int vxn, .ref axr, .ref axb, .ref axj, .int vxk, .ref axi, .ref axu, .long vxA, .long vxB, .long vxC, .long vxE])), (axr, .inl (cy, 8, .inl fxr)), (axi, .inl (cy, 8, .inl res))]) A) (([.ref ax] : List Value).toArray) s 0 0 A) (F0 m 28 ls [])) → W p l e (headSpec wsX5_takeRow ({ frames := 0, cells := 0, slots := 0, locals := 0 })).room s m (([.ref ax] : List Value).toArray) below meth c H locs 0 0 (MQ below (va_Qv (fun (_ : Unit) => True) (QW (dC, dI) cy A [(ax, .inr (5, [.int vxn, .ref axr, .ref axb, .ref axj, .int vxk, .ref axi, .ref axu, .long vxA, .long vxB, .long vxC, .long vxE])), (axr, .inl (cy, 8, .inl fxr)), (axi, .inl (cy, 8, .inl res))]) A) (([.ref ax] : List Value).toArray) s 0 0 A) (F0 m 2 ls []) := by
    intro n
    induction n with
    | zero =>
      intro l1 fxi rs H locs ls h
      rw [fX5_takeRow_L2_0] at h
      cases h
    | succ n ih =>
      intro l1 fxi rs H locs ls h hl hP hD hS K
      rw [fX5_takeRow_L2_s] at h
      refine lv_iload_n hx hb dX5_takeRow_2 rfl (lv_at hl 1 rfl) ?_
      refine lv_aload_n hx hb dX5_takeRow_3 rfl (lv_at hl 0 rfl) ?_
      refine va_get (D := (dC, dI)) (ci := 5) (v := .int vxn) (C := RX5) (T := TX5) (N := 11) hx hb hts hin_X5 hown hK hP 0 rfl rfl 0 (by decide) (hf_7) (fun _ h9 => h9) rfl dX5_takeRow_4 ?_
      refine lv_icmp_ge (tgt := 28) hx hb dX5_takeRow_7 (by decide) (fun c1 => ?_) (fun c1 => ?_)
      · rw [if_pos c1] at h
        have h0 := Option.some.inj h
        subst h0
        exact K H locs ls (lv_sub hl [0, 1] rfl) hP hD hS
      · rw [if_neg c1] at h
        refine lv_aload_n hx hb dX5_takeRow_10 rfl (lv_at hl 0 rfl) ?_
        refine va_get (D := (dC, dI)) (ci := 5) (v := .ref axi) (C := RX5) (T := TX5) (N := 11) hx hb hts hin_X5 hown hK hP 0 rfl rfl 5 (by decide) (hf_26) (fun _ h9 => h9) rfl dX5_takeRow_11 ?_
        refine lv_iload_n hx hb dX5_takeRow_14 rfl (lv_at hl 1 rfl) ?_
        refine lv_aload_n hx hb dX5_takeRow_15 rfl (lv_at hl 0 rfl) ?_
        refine va_get (D := (dC, dI)) (ci := 5) (v := .ref axr) (C := RX5) (T := TX5) (N := 11) hx hb hts hin_X5 hown hK hP 0 rfl rfl 1 (by decide) (hf_13) (fun _ h9 => h9) rfl dX5_takeRow_16 ?_
        refine lv_iload_n hx hb dX5_takeRow_19 rfl (lv_at hl 1 rfl) ?_
        obtain ⟨hi, h⟩ := gin_some h
        refine va_iald hx hb hK hP 1 0 rfl rfl hi dX5_takeRow_20 ?_
        obtain ⟨hi, h⟩ := gin_some h
        refine va_iast hx hb hK hP hD hS 2 0 rfl rfl hi dX5_takeRow_21 (fun H locs hP hD hS => ?_)
        replace hP : va_P (dC, dI) vwCl [(ax, .inr (5, [.int vxn, .ref axr, .ref axb, .ref axj, .int vxk, .ref axi, .ref axu, .long vxA, .long vxB, .long vxC, .long vxE])), (axr, .inl (cy, 8, .inl fxr)), (axi, .inl (cy, 8, .inl (upd fxi l1.toNatClampNeg (fxr l1.toNatClampNeg))))] H := hP
        replace hD : va_D A [(ax, .inr (5, [.int vxn, .ref axr, .ref axb, .ref axj, .int vxk, .ref axi, .ref axu, .long vxA, .long vxB, .long vxC, .long vxE])), (axr, .inl (cy, 8, .inl fxr)), (axi, .inl (cy, 8, .inl (upd fxi l1.toNatClampNeg (fxr l1.toNatClampNeg))))] := hD
        refine lv_iinc (v := l1 + (1 : Int32)) (lv' := [(1, .int (l1 + (1 : Int32))), (0, .ref ax)]) hx hb dX5_takeRow_22 hl (k := 1) rfl rfl (by decide) rfl (fun ls hl => ?_)
        refine lv_goto (tgt := 2) hx hb dX5_takeRow_25 (by decide) ?_
        exact ih (l1 + (1 : Int32)) (upd fxi l1.toNatClampNeg (fxr l1.toNatClampNeg)) rs H locs ls h (lv_sub hl [1, 0] rfl) hP hD hS K
  obtain ⟨q3, hq3, h⟩ := bd_some h
  refine L2_1 FU (0 : Int32) fxi q3 H locs ls hq3 (lv_sub hl [1, 0] rfl) hP hD hS (fun H locs ls hl hP hD hS => ?_)
  have h0 := Option.some.inj h
  subst h0
  exact W.vret hx hb hr (fun t ht hW => ⟨⟨(), rfl, trivial, QW_mk hP hK hD ht hW⟩, hS.F ht⟩) hS.2.2 dX5_takeRow_28

noncomputable def fX5_fromRising_L21 (n : Nat) (l2 : Int32) (l3 : Int32) (fxi : Nat → Int32) (fxu : Nat → Int32) : Option (Int32 × (Nat → Int32)) := match n with
  | 0 => none
  | n + 1 => if l2 ≤ l3 then (some (l3, fxu)) else (gin l3 8 (gin l2 8 (if (fxi l2.toNatClampNeg) < (fxi l3.toNatClampNeg) then (gin l2 8 (gin l2 8 (fX5_fromRising_L21 n l2 (l3 + (1 : Int32)) fxi (upd fxu l2.toNatClampNeg (fxu l2.toNatClampNeg))))) else (gin l3 8 (gin l2 8 (if ((fxu l3.toNatClampNeg) + (1 : Int32)) ≤ (fxu l2.toNatClampNeg) then (gin l2 8 (gin l2 8 (fX5_fromRising_L21 n l2 (l3 + (1 : Int32)) fxi (upd fxu l2.toNatClampNeg (fxu l2.toNatClampNeg))))) else (gin l3 8 (gin l2 8 (fX5_fromRising_L21 n l2 (l3 + (1 : Int32)) fxi (upd fxu l2.toNatClampNeg ((fxu l3.toNatClampNeg) + (1 : Int32))))))))))))
theorem fX5_fromRising_L21_0 (l2 : Int32) (l3 : Int32) (fxi : Nat → Int32) (fxu : Nat → Int32) : fX5_fromRising_L21 0 l2 l3 fxi fxu = none := rfl
theorem fX5_fromRising_L21_s (n : Nat) (l2 : Int32) (l3 : Int32) (fxi : Nat → Int32) (fxu : Nat → Int32) : fX5_fromRising_L21 (n + 1) l2 l3 fxi fxu = if l2 ≤ l3 then (some (l3, fxu)) else (gin l3 8 (gin l2 8 (if (fxi l2.toNatClampNeg) < (fxi l3.toNatClampNeg) then (gin l2 8 (gin l2 8 (fX5_fromRising_L21 n l2 (l3 + (1 : Int32)) fxi (upd fxu l2.toNatClampNeg (fxu l2.toNatClampNeg))))) else (gin l3 8 (gin l2 8 (if ((fxu l3.toNatClampNeg) + (1 : Int32)) ≤ (fxu l2.toNatClampNeg) then (gin l2 8 (gin l2 8 (fX5_fromRising_L21 n l2 (l3 + (1 : Int32)) fxi (upd fxu l2.toNatClampNeg (fxu l2.toNatClampNeg))))) else (gin l3 8 (gin l2 8 (fX5_fromRising_L21 n l2 (l3 + (1 : Int32)) fxi (upd fxu l2.toNatClampNeg ((fxu l3.toNatClampNeg) + (1 : Int32)))))))))))) := rfl
noncomputable def fX5_fromRising_L4 (n : Nat) (l1 : Int32) (l2 : Int32) (vxn : Int32) (fxi : Nat → Int32) (fxu : Nat → Int32) : Option (Int32 × Int32 × (Nat → Int32)) := match n with
  | 0 => none
  | n + 1 => if vxn ≤ l2 then (some (l1, l2, fxu)) else (gin l2 8 (bd (fX5_fromRising_L21 FU l2 (0 : Int32) fxi (upd fxu l2.toNatClampNeg (1 : Int32))) fun q5 => gin l2 8 (if (q5.2 l2.toNatClampNeg) ≤ l1 then (fX5_fromRising_L4 n l1 (l2 + (1 : Int32)) vxn fxi q5.2) else (gin l2 8 (fX5_fromRising_L4 n (q5.2 l2.toNatClampNeg) (l2 + (1 : Int32)) vxn fxi q5.2)))))
theorem fX5_fromRising_L4_0 (l1 : Int32) (l2 : Int32) (vxn : Int32) (fxi : Nat → Int32) (fxu : Nat → Int32) : fX5_fromRising_L4 0 l1 l2 vxn fxi fxu = none := rfl
theorem fX5_fromRising_L4_s (n : Nat) (l1 : Int32) (l2 : Int32) (vxn : Int32) (fxi : Nat → Int32) (fxu : Nat → Int32) : fX5_fromRising_L4 (n + 1) l1 l2 vxn fxi fxu = if vxn ≤ l2 then (some (l1, l2, fxu)) else (gin l2 8 (bd (fX5_fromRising_L21 FU l2 (0 : Int32) fxi (upd fxu l2.toNatClampNeg (1 : Int32))) fun q5 => gin l2 8 (if (q5.2 l2.toNatClampNeg) ≤ l1 then (fX5_fromRising_L4 n l1 (l2 + (1 : Int32)) vxn fxi q5.2) else (gin l2 8 (fX5_fromRising_L4 n (q5.2 l2.toNatClampNeg) (l2 + (1 : Int32)) vxn fxi q5.2))))) := rfl
noncomputable def fX5_fromRising (vxn : Int32) (fxi : Nat → Int32) (fxu : Nat → Int32)  : Option (Int32 × (Nat → Int32)) := bd (fX5_fromRising_L4 FU (0 : Int32) (0 : Int32) vxn fxi fxu) fun q9 => some (vxn - q9.1, q9.2.2)
set_option maxHeartbeats 4000000 in
set_option maxRecDepth 100000 in
theorem c_X5_fromRising (l : Launch) (dC : Nat → ClassId) (dI : Nat → Nat → Nat) (cy : ClassId) (ax axr axb axj axi axu : Nat) (sz : Nat) (vxn : Int32) (vxk : Int32) (vxA : Int64) (vxB : Int64) (vxC : Int64) (vxE : Int64) (fxi : Nat → Int32) (fxu : Nat → Int32)  (res : Int32 × (Nat → Int32)) (h : fX5_fromRising vxn fxi fxu = some res) : Met l yX5_fromRising wsX5_fromRising ({ frames := 0, cells := 0, slots := 0, locals := 0 }) (va_Pc [.ref ax] (PW (dC, dI) cy sz [(ax, .inr (5, [.int vxn, .ref axr, .ref axb, .ref axj, .int vxk, .ref axi, .ref axu, .long vxA, .long vxB, .long vxC, .long vxE])), (axi, .inl (cy, 8, .inl fxi)), (axu, .inl (cy, 8, .inl fxu))])) (va_Qi (fun (r : Int32) (_ : Unit) => r = res.1) (QW (dC, dI) cy (va_A [(ax, .inr (5, [.int vxn, .ref axr, .ref axb, .ref axj, .int vxk, .ref axi, .ref axu, .long vxA, .long vxB, .long vxC, .long vxE])), (axi, .inl (cy, 8, .inl fxi)), (axu, .inl (cy, 8, .inl fxu))] sz) [(ax, .inr (5, [.int vxn, .ref axr, .ref axb, .ref axj, .int vxk, .ref axi, .ref axu, .long vxA, .long vxB, .long vxC, .long vxE])), (axi, .inl (cy, 8, .inl fxi)), (axu, .inl (cy, 8, .inl res.2))]) (va_A [(ax, .inr (5, [.int vxn, .ref axr, .ref axb, .ref axj, .int vxk, .ref axi, .ref axu, .long vxA, .long vxB, .long vxC, .long vxE])), (axi, .inl (cy, 8, .inl fxi)), (axu, .inl (cy, 8, .inl fxu))] sz)) 0 0 (va_A [(ax, .inr (5, [.int vxn, .ref axr, .ref axb, .ref axj, .int vxk, .ref axi, .ref axu, .long vxA, .long vxB, .long vxC, .long vxE])), (axi, .inl (cy, 8, .inl fxi)), (axu, .inl (cy, 8, .inl fxu))] sz) := by
  refine Met.ofW (cc := cX5_fromRising) (maxL := 4) (ret := (some .int)) (by decide) rfl ?_
  intro p e s m args below meth c s₁ B hml hv
  obtain ⟨rfl, hsz, hP, hK, hD0, hN⟩ := hv
  have hx := B.exec
  have hb := B.bytes
  have hr := B.returns
  have hts := atoms_spec (ws := wsX5_fromRising) B.pre
  have hown : s.vm.findClass RX5 = some m.cls := findClass_of_methodNamed B.named
  have hlocks := B.notSynchronized
  subst hsz
  have hD := hD0.self (sz := s.heap.size)
  clear hD0
  generalize hAe : va_A [(ax, .inr (5, [.int vxn, .ref axr, .ref axb, .ref axj, .int vxk, .ref axi, .ref axu, .long vxA, .long vxB, .long vxC, .long vxE])), (axi, .inl (cy, 8, .inl fxi)), (axu, .inl (cy, 8, .inl fxu))] s.heap.size = A at hD ⊢
  have hA : ∀ q : Nat, s.heap.size ≤ q → A q := fun q h => by rw [← hAe]; exact Or.inr h
  have hS : va_S A s.heap s.heap [] := va_S.rf
  have hl := lv_entry ([.ref ax]) (n := 4) (Nat.le_of_ble_eq_true rfl)
  rw [lg_entry_eq]
  generalize (lg_sl ([.ref ax]) ++ List.replicate (4 - (lg_sl ([.ref ax])).length) Slot.unset).toArray = ls at hl ⊢
  replace hl : lv_has ls 4 [(0, .ref ax)] := hl
  replace hP : va_P (dC, dI) vwCl [(ax, .inr (5, [.int vxn, .ref axr, .ref axb, .ref axj, .int vxk, .ref axi, .ref axu, .long vxA, .long vxB, .long vxC, .long vxE])), (axi, .inl (cy, 8, .inl fxi)), (axu, .inl (cy, 8, .inl fxu))] s.heap := hP
  obtain ⟨locs, hlocs⟩ : ∃ lc : List Loc, lc = [] := ⟨_, rfl⟩
  rw [← hlocs] at hS ⊢
  obtain ⟨H, hH⟩ : ∃ H : Heap, H = s.heap := ⟨_, rfl⟩
  have hP2 := hP; rw [← hH] at hP2
  have hS2 : va_S A s.heap H locs := by rw [hH]; exact hS
  suffices hgo : W p l e (headSpec wsX5_fromRising ({ frames := 0, cells := 0, slots := 0, locals := 0 })).room s m (([.ref ax] : List Value).toArray) below meth c H locs 0 0 (MQ below (va_Qi (fun (r : Int32) (_ : Unit) => r = res.1) (QW (dC, dI) cy A [(ax, .inr (5, [.int vxn, .ref axr, .ref axb, .ref axj, .int vxk, .ref axi, .ref axu, .long vxA, .long vxB, .long vxC, .long vxE])), (axi, .inl (cy, 8, .inl fxi)), (axu, .inl (cy, 8, .inl res.2))]) A) (([.ref ax] : List Value).toArray) s 0 0 A) (F0 m 0 ls []) by rw [hH] at hgo; exact hgo
  replace hP := hP2
  replace hS := hS2
  clear hP2 hS2
  have hin_X5 : ∀ w ∈ wsX50, w ∈ wsX5_fromRising := by decide +kernel
  have hf_7 := hts (.fieldLink RX5 7 "FewLooksModel" "n" "I") (by decide +kernel)
  have hf_26 := hts (.fieldLink RX5 26 "FewLooksModel" "it" "[I") (by decide +kernel)
  have hf_29 := hts (.fieldLink RX5 29 "FewLooksModel" "rise" "[I") (by decide +kernel)
  unfold fX5_fromRising at h
  refine lv_iconst (v := (0 : Int32)) hx hb dX5_fromRising_0 (by decide) ?_
  refine lv_istore_n (lv' := [(1, .int (0 : Int32)), (0, .ref ax)]) hx hb dX5_fromRising_1 rfl hl (by decide) rfl (fun ls hl => ?_)
  refine lv_iconst (v := (0 : Int32)) hx hb dX5_fromRising_2 (by decide) ?_
  refine lv_istore_n (lv' := [(2, .int (0 : Int32)), (1, .int (0 : Int32)), (0, .ref ax)]) hx hb dX5_fromRising_3 rfl hl (by decide) rfl (fun ls hl => ?_)
  have L4_7 : ∀ (n : Nat) (l1 : Int32) (l2 : Int32) (fxu : Nat → Int32) (rs : (Int32 × Int32 × (Nat → Int32))) (H : Heap) (locs : List Loc) (ls : Array Slot), fX5_fromRising_L4 n l1 l2 vxn fxi fxu = some rs → lv_has ls 4 [(0, .ref ax), (1, .int l1), (2, .int l2)] → va_P (dC, dI) vwCl [(ax, .inr (5, [.int vxn, .ref axr, .ref axb, .ref axj, .int vxk, .ref axi, .ref axu, .long vxA, .long vxB, .long vxC, .long vxE])), (axi, .inl (cy, 8, .inl fxi)), (axu, .inl (cy, 8, .inl fxu))] H → va_D A [(ax, .inr (5, [.int vxn, .ref axr, .ref axb, .ref axj, .int vxk, .ref axi, .ref axu, .long vxA, .long vxB, .long vxC, .long vxE])), (axi, .inl (cy, 8, .inl fxi)), (axu, .inl (cy, 8, .inl fxu))] → va_S A s.heap H locs → (∀ (H : Heap) (locs : List Loc) (ls : Array Slot), lv_has ls 4 [(0, .ref ax), (1, .int rs.1), (2, .int rs.2.1)] → va_P (dC, dI) vwCl [(ax, .inr (5, [.int vxn, .ref axr, .ref axb, .ref axj, .int vxk, .ref axi, .ref axu, .long vxA, .long vxB, .long vxC, .long vxE])), (axi, .inl (cy, 8, .inl fxi)), (axu, .inl (cy, 8, .inl rs.2.2))] H → va_D A [(ax, .inr (5, [.int vxn, .ref axr, .ref axb, .ref axj, .int vxk, .ref axi, .ref axu, .long vxA, .long vxB, .long vxC, .long vxE])), (axi, .inl (cy, 8, .inl fxi)), (axu, .inl (cy, 8, .inl rs.2.2))] → va_S A s.heap H locs → W p l e (headSpec wsX5_fromRising ({ frames := 0, cells := 0, slots := 0, locals := 0 })).room s m (([.ref ax] : List Value).toArray) below meth c H locs 0 0 (MQ below (va_Qi (fun (r : Int32) (_ : Unit) => r = res.1) (QW (dC, dI) cy A [(ax, .inr (5, [.int vxn, .ref axr, .ref axb, .ref axj, .int vxk, .ref axi, .ref axu, .long vxA, .long vxB, .long vxC, .long vxE])), (axi, .inl (cy, 8, .inl fxi)), (axu, .inl (cy, 8, .inl res.2))]) A) (([.ref ax] : List Value).toArray) s 0 0 A) (F0 m 114 ls [])) → W p l e (headSpec wsX5_fromRising ({ frames := 0, cells := 0, slots := 0, locals := 0 })).room s m (([.ref ax] : List Value).toArray) below meth c H locs 0 0 (MQ below (va_Qi (fun (r : Int32) (_ : Unit) => r = res.1) (QW (dC, dI) cy A [(ax, .inr (5, [.int vxn, .ref axr, .ref axb, .ref axj, .int vxk, .ref axi, .ref axu, .long vxA, .long vxB, .long vxC, .long vxE])), (axi, .inl (cy, 8, .inl fxi)), (axu, .inl (cy, 8, .inl res.2))]) A) (([.ref ax] : List Value).toArray) s 0 0 A) (F0 m 4 ls []) := by
    intro n
    induction n with
    | zero =>
      intro l1 l2 fxu rs H locs ls h
      rw [fX5_fromRising_L4_0] at h
      cases h
    | succ n ih =>
      intro l1 l2 fxu rs H locs ls h hl hP hD hS K
      rw [fX5_fromRising_L4_s] at h
      refine lv_iload_n hx hb dX5_fromRising_4 rfl (lv_at hl 2 rfl) ?_
      refine lv_aload_n hx hb dX5_fromRising_5 rfl (lv_at hl 0 rfl) ?_
      refine va_get (D := (dC, dI)) (ci := 5) (v := .int vxn) (C := RX5) (T := TX5) (N := 11) hx hb hts hin_X5 hown hK hP 0 rfl rfl 0 (by decide) (hf_7) (fun _ h9 => h9) rfl dX5_fromRising_6 ?_
      refine lv_icmp_ge (tgt := 114) hx hb dX5_fromRising_9 (by decide) (fun c7 => ?_) (fun c7 => ?_)
      · rw [if_pos c7] at h
        have h0 := Option.some.inj h
        subst h0
        exact K H locs ls (lv_sub hl [0, 1, 2] rfl) hP hD hS
      · rw [if_neg c7] at h
        refine lv_aload_n hx hb dX5_fromRising_12 rfl (lv_at hl 0 rfl) ?_
        refine va_get (D := (dC, dI)) (ci := 5) (v := .ref axu) (C := RX5) (T := TX5) (N := 11) hx hb hts hin_X5 hown hK hP 0 rfl rfl 6 (by decide) (hf_29) (fun _ h9 => h9) rfl dX5_fromRising_13 ?_
        refine lv_iload_n hx hb dX5_fromRising_16 rfl (lv_at hl 2 rfl) ?_
        refine lv_iconst (v := (1 : Int32)) hx hb dX5_fromRising_17 (by decide) ?_
        obtain ⟨hi, h⟩ := gin_some h
        refine va_iast hx hb hK hP hD hS 2 0 rfl rfl hi dX5_fromRising_18 (fun H locs hP hD hS => ?_)
        replace hP : va_P (dC, dI) vwCl [(ax, .inr (5, [.int vxn, .ref axr, .ref axb, .ref axj, .int vxk, .ref axi, .ref axu, .long vxA, .long vxB, .long vxC, .long vxE])), (axi, .inl (cy, 8, .inl fxi)), (axu, .inl (cy, 8, .inl (upd fxu l2.toNatClampNeg (1 : Int32))))] H := hP
        replace hD : va_D A [(ax, .inr (5, [.int vxn, .ref axr, .ref axb, .ref axj, .int vxk, .ref axi, .ref axu, .long vxA, .long vxB, .long vxC, .long vxE])), (axi, .inl (cy, 8, .inl fxi)), (axu, .inl (cy, 8, .inl (upd fxu l2.toNatClampNeg (1 : Int32))))] := hD
        refine lv_iconst (v := (0 : Int32)) hx hb dX5_fromRising_19 (by decide) ?_
        refine lv_istore_n (lv' := [(3, .int (0 : Int32)), (0, .ref ax), (1, .int l1), (2, .int l2)]) hx hb dX5_fromRising_20 rfl hl (by decide) rfl (fun ls hl => ?_)
        have L21_3 : ∀ (n : Nat) (l1 : Int32) (l2 : Int32) (l3 : Int32) (fxu : Nat → Int32) (rs : (Int32 × (Nat → Int32))) (H : Heap) (locs : List Loc) (ls : Array Slot), fX5_fromRising_L21 n l2 l3 fxi fxu = some rs → lv_has ls 4 [(0, .ref ax), (1, .int l1), (2, .int l2), (3, .int l3)] → va_P (dC, dI) vwCl [(ax, .inr (5, [.int vxn, .ref axr, .ref axb, .ref axj, .int vxk, .ref axi, .ref axu, .long vxA, .long vxB, .long vxC, .long vxE])), (axi, .inl (cy, 8, .inl fxi)), (axu, .inl (cy, 8, .inl fxu))] H → va_D A [(ax, .inr (5, [.int vxn, .ref axr, .ref axb, .ref axj, .int vxk, .ref axi, .ref axu, .long vxA, .long vxB, .long vxC, .long vxE])), (axi, .inl (cy, 8, .inl fxi)), (axu, .inl (cy, 8, .inl fxu))] → va_S A s.heap H locs → (∀ (H : Heap) (locs : List Loc) (ls : Array Slot), lv_has ls 4 [(0, .ref ax), (1, .int l1), (2, .int l2), (3, .int rs.1)] → va_P (dC, dI) vwCl [(ax, .inr (5, [.int vxn, .ref axr, .ref axb, .ref axj, .int vxk, .ref axi, .ref axu, .long vxA, .long vxB, .long vxC, .long vxE])), (axi, .inl (cy, 8, .inl fxi)), (axu, .inl (cy, 8, .inl rs.2))] H → va_D A [(ax, .inr (5, [.int vxn, .ref axr, .ref axb, .ref axj, .int vxk, .ref axi, .ref axu, .long vxA, .long vxB, .long vxC, .long vxE])), (axi, .inl (cy, 8, .inl fxi)), (axu, .inl (cy, 8, .inl rs.2))] → va_S A s.heap H locs → W p l e (headSpec wsX5_fromRising ({ frames := 0, cells := 0, slots := 0, locals := 0 })).room s m (([.ref ax] : List Value).toArray) below meth c H locs 0 0 (MQ below (va_Qi (fun (r : Int32) (_ : Unit) => r = res.1) (QW (dC, dI) cy A [(ax, .inr (5, [.int vxn, .ref axr, .ref axb, .ref axj, .int vxk, .ref axi, .ref axu, .long vxA, .long vxB, .long vxC, .long vxE])), (axi, .inl (cy, 8, .inl fxi)), (axu, .inl (cy, 8, .inl res.2))]) A) (([.ref ax] : List Value).toArray) s 0 0 A) (F0 m 87 ls [])) → W p l e (headSpec wsX5_fromRising ({ frames := 0, cells := 0, slots := 0, locals := 0 })).room s m (([.ref ax] : List Value).toArray) below meth c H locs 0 0 (MQ below (va_Qi (fun (r : Int32) (_ : Unit) => r = res.1) (QW (dC, dI) cy A [(ax, .inr (5, [.int vxn, .ref axr, .ref axb, .ref axj, .int vxk, .ref axi, .ref axu, .long vxA, .long vxB, .long vxC, .long vxE])), (axi, .inl (cy, 8, .inl fxi)), (axu, .inl (cy, 8, .inl res.2))]) A) (([.ref ax] : List Value).toArray) s 0 0 A) (F0 m 21 ls []) := by
          intro n
          induction n with
          | zero =>
            intro l1 l2 l3 fxu rs H locs ls h
            rw [fX5_fromRising_L21_0] at h
            cases h
          | succ n ih =>
            intro l1 l2 l3 fxu rs H locs ls h hl hP hD hS K
            rw [fX5_fromRising_L21_s] at h
            refine lv_iload_n hx hb dX5_fromRising_21 rfl (lv_at hl 3 rfl) ?_
            refine lv_iload_n hx hb dX5_fromRising_22 rfl (lv_at hl 2 rfl) ?_
            refine lv_icmp_ge (tgt := 87) hx hb dX5_fromRising_23 (by decide) (fun c3 => ?_) (fun c3 => ?_)
            · rw [if_pos c3] at h
              have h0 := Option.some.inj h
              subst h0
              exact K H locs ls (lv_sub hl [0, 1, 2, 3] rfl) hP hD hS
            · rw [if_neg c3] at h
              refine lv_aload_n hx hb dX5_fromRising_26 rfl (lv_at hl 0 rfl) ?_
              refine va_get (D := (dC, dI)) (ci := 5) (v := .ref axu) (C := RX5) (T := TX5) (N := 11) hx hb hts hin_X5 hown hK hP 0 rfl rfl 6 (by decide) (hf_29) (fun _ h9 => h9) rfl dX5_fromRising_27 ?_
              refine lv_iload_n hx hb dX5_fromRising_30 rfl (lv_at hl 2 rfl) ?_
              refine lv_aload_n hx hb dX5_fromRising_31 rfl (lv_at hl 0 rfl) ?_
              refine va_get (D := (dC, dI)) (ci := 5) (v := .ref axi) (C := RX5) (T := TX5) (N := 11) hx hb hts hin_X5 hown hK hP 0 rfl rfl 5 (by decide) (hf_26) (fun _ h9 => h9) rfl dX5_fromRising_32 ?_
              refine lv_iload_n hx hb dX5_fromRising_35 rfl (lv_at hl 3 rfl) ?_
              obtain ⟨hi, h⟩ := gin_some h
              refine va_iald hx hb hK hP 1 0 rfl rfl hi dX5_fromRising_36 ?_
              refine lv_aload_n hx hb dX5_fromRising_37 rfl (lv_at hl 0 rfl) ?_
              refine va_get (D := (dC, dI)) (ci := 5) (v := .ref axi) (C := RX5) (T := TX5) (N := 11) hx hb hts hin_X5 hown hK hP 0 rfl rfl 5 (by decide) (hf_26) (fun _ h9 => h9) rfl dX5_fromRising_38 ?_
              refine lv_iload_n hx hb dX5_fromRising_41 rfl (lv_at hl 2 rfl) ?_
              obtain ⟨hi, h⟩ := gin_some h
              refine va_iald hx hb hK hP 1 0 rfl rfl hi dX5_fromRising_42 ?_
              refine lv_icmp_gt (tgt := 74) hx hb dX5_fromRising_43 (by decide) (fun c2 => ?_) (fun c2 => ?_)
              · rw [if_pos c2] at h
                refine lv_aload_n hx hb dX5_fromRising_74 rfl (lv_at hl 0 rfl) ?_
                refine va_get (D := (dC, dI)) (ci := 5) (v := .ref axu) (C := RX5) (T := TX5) (N := 11) hx hb hts hin_X5 hown hK hP 0 rfl rfl 6 (by decide) (hf_29) (fun _ h9 => h9) rfl dX5_fromRising_75 ?_
                refine lv_iload_n hx hb dX5_fromRising_78 rfl (lv_at hl 2 rfl) ?_
                obtain ⟨hi, h⟩ := gin_some h
                refine va_iald hx hb hK hP 2 0 rfl rfl hi dX5_fromRising_79 ?_
                obtain ⟨hi, h⟩ := gin_some h
                refine va_iast hx hb hK hP hD hS 2 0 rfl rfl hi dX5_fromRising_80 (fun H locs hP hD hS => ?_)
                replace hP : va_P (dC, dI) vwCl [(ax, .inr (5, [.int vxn, .ref axr, .ref axb, .ref axj, .int vxk, .ref axi, .ref axu, .long vxA, .long vxB, .long vxC, .long vxE])), (axi, .inl (cy, 8, .inl fxi)), (axu, .inl (cy, 8, .inl (upd fxu l2.toNatClampNeg (fxu l2.toNatClampNeg))))] H := hP
                replace hD : va_D A [(ax, .inr (5, [.int vxn, .ref axr, .ref axb, .ref axj, .int vxk, .ref axi, .ref axu, .long vxA, .long vxB, .long vxC, .long vxE])), (axi, .inl (cy, 8, .inl fxi)), (axu, .inl (cy, 8, .inl (upd fxu l2.toNatClampNeg (fxu l2.toNatClampNeg))))] := hD
                refine lv_iinc (v := l3 + (1 : Int32)) (lv' := [(3, .int (l3 + (1 : Int32))), (0, .ref ax), (1, .int l1), (2, .int l2)]) hx hb dX5_fromRising_81 hl (k := 3) rfl rfl (by decide) rfl (fun ls hl => ?_)
                refine lv_goto (tgt := 21) hx hb dX5_fromRising_84 (by decide) ?_
                exact ih l1 l2 (l3 + (1 : Int32)) (upd fxu l2.toNatClampNeg (fxu l2.toNatClampNeg)) rs H locs ls h (lv_sub hl [1, 2, 3, 0] rfl) hP hD hS K
              · rw [if_neg c2] at h
                refine lv_aload_n hx hb dX5_fromRising_46 rfl (lv_at hl 0 rfl) ?_
                refine va_get (D := (dC, dI)) (ci := 5) (v := .ref axu) (C := RX5) (T := TX5) (N := 11) hx hb hts hin_X5 hown hK hP 0 rfl rfl 6 (by decide) (hf_29) (fun _ h9 => h9) rfl dX5_fromRising_47 ?_
                refine lv_iload_n hx hb dX5_fromRising_50 rfl (lv_at hl 3 rfl) ?_
                obtain ⟨hi, h⟩ := gin_some h
                refine va_iald hx hb hK hP 2 0 rfl rfl hi dX5_fromRising_51 ?_
                refine lv_iconst (v := (1 : Int32)) hx hb dX5_fromRising_52 (by decide) ?_
                refine lv_iadd hx hb dX5_fromRising_53 ?_
                refine lv_aload_n hx hb dX5_fromRising_54 rfl (lv_at hl 0 rfl) ?_
                refine va_get (D := (dC, dI)) (ci := 5) (v := .ref axu) (C := RX5) (T := TX5) (N := 11) hx hb hts hin_X5 hown hK hP 0 rfl rfl 6 (by decide) (hf_29) (fun _ h9 => h9) rfl dX5_fromRising_55 ?_
                refine lv_iload_n hx hb dX5_fromRising_58 rfl (lv_at hl 2 rfl) ?_
                obtain ⟨hi, h⟩ := gin_some h
                refine va_iald hx hb hK hP 2 0 rfl rfl hi dX5_fromRising_59 ?_
                refine lv_icmp_le (tgt := 74) hx hb dX5_fromRising_60 (by decide) (fun c1 => ?_) (fun c1 => ?_)
                · rw [if_pos c1] at h
                  refine lv_aload_n hx hb dX5_fromRising_74 rfl (lv_at hl 0 rfl) ?_
                  refine va_get (D := (dC, dI)) (ci := 5) (v := .ref axu) (C := RX5) (T := TX5) (N := 11) hx hb hts hin_X5 hown hK hP 0 rfl rfl 6 (by decide) (hf_29) (fun _ h9 => h9) rfl dX5_fromRising_75 ?_
                  refine lv_iload_n hx hb dX5_fromRising_78 rfl (lv_at hl 2 rfl) ?_
                  obtain ⟨hi, h⟩ := gin_some h
                  refine va_iald hx hb hK hP 2 0 rfl rfl hi dX5_fromRising_79 ?_
                  obtain ⟨hi, h⟩ := gin_some h
                  refine va_iast hx hb hK hP hD hS 2 0 rfl rfl hi dX5_fromRising_80 (fun H locs hP hD hS => ?_)
                  replace hP : va_P (dC, dI) vwCl [(ax, .inr (5, [.int vxn, .ref axr, .ref axb, .ref axj, .int vxk, .ref axi, .ref axu, .long vxA, .long vxB, .long vxC, .long vxE])), (axi, .inl (cy, 8, .inl fxi)), (axu, .inl (cy, 8, .inl (upd fxu l2.toNatClampNeg (fxu l2.toNatClampNeg))))] H := hP
                  replace hD : va_D A [(ax, .inr (5, [.int vxn, .ref axr, .ref axb, .ref axj, .int vxk, .ref axi, .ref axu, .long vxA, .long vxB, .long vxC, .long vxE])), (axi, .inl (cy, 8, .inl fxi)), (axu, .inl (cy, 8, .inl (upd fxu l2.toNatClampNeg (fxu l2.toNatClampNeg))))] := hD
                  refine lv_iinc (v := l3 + (1 : Int32)) (lv' := [(3, .int (l3 + (1 : Int32))), (0, .ref ax), (1, .int l1), (2, .int l2)]) hx hb dX5_fromRising_81 hl (k := 3) rfl rfl (by decide) rfl (fun ls hl => ?_)
                  refine lv_goto (tgt := 21) hx hb dX5_fromRising_84 (by decide) ?_
                  exact ih l1 l2 (l3 + (1 : Int32)) (upd fxu l2.toNatClampNeg (fxu l2.toNatClampNeg)) rs H locs ls h (lv_sub hl [1, 2, 3, 0] rfl) hP hD hS K
                · rw [if_neg c1] at h
                  refine lv_aload_n hx hb dX5_fromRising_63 rfl (lv_at hl 0 rfl) ?_
                  refine va_get (D := (dC, dI)) (ci := 5) (v := .ref axu) (C := RX5) (T := TX5) (N := 11) hx hb hts hin_X5 hown hK hP 0 rfl rfl 6 (by decide) (hf_29) (fun _ h9 => h9) rfl dX5_fromRising_64 ?_
                  refine lv_iload_n hx hb dX5_fromRising_67 rfl (lv_at hl 3 rfl) ?_
                  obtain ⟨hi, h⟩ := gin_some h
                  refine va_iald hx hb hK hP 2 0 rfl rfl hi dX5_fromRising_68 ?_
                  refine lv_iconst (v := (1 : Int32)) hx hb dX5_fromRising_69 (by decide) ?_
                  refine lv_iadd hx hb dX5_fromRising_70 ?_
                  refine lv_goto (tgt := 80) hx hb dX5_fromRising_71 (by decide) ?_
                  obtain ⟨hi, h⟩ := gin_some h
                  refine va_iast hx hb hK hP hD hS 2 0 rfl rfl hi dX5_fromRising_80 (fun H locs hP hD hS => ?_)
                  replace hP : va_P (dC, dI) vwCl [(ax, .inr (5, [.int vxn, .ref axr, .ref axb, .ref axj, .int vxk, .ref axi, .ref axu, .long vxA, .long vxB, .long vxC, .long vxE])), (axi, .inl (cy, 8, .inl fxi)), (axu, .inl (cy, 8, .inl (upd fxu l2.toNatClampNeg ((fxu l3.toNatClampNeg) + (1 : Int32)))))] H := hP
                  replace hD : va_D A [(ax, .inr (5, [.int vxn, .ref axr, .ref axb, .ref axj, .int vxk, .ref axi, .ref axu, .long vxA, .long vxB, .long vxC, .long vxE])), (axi, .inl (cy, 8, .inl fxi)), (axu, .inl (cy, 8, .inl (upd fxu l2.toNatClampNeg ((fxu l3.toNatClampNeg) + (1 : Int32)))))] := hD
                  refine lv_iinc (v := l3 + (1 : Int32)) (lv' := [(3, .int (l3 + (1 : Int32))), (0, .ref ax), (1, .int l1), (2, .int l2)]) hx hb dX5_fromRising_81 hl (k := 3) rfl rfl (by decide) rfl (fun ls hl => ?_)
                  refine lv_goto (tgt := 21) hx hb dX5_fromRising_84 (by decide) ?_
                  exact ih l1 l2 (l3 + (1 : Int32)) (upd fxu l2.toNatClampNeg ((fxu l3.toNatClampNeg) + (1 : Int32))) rs H locs ls h (lv_sub hl [1, 2, 3, 0] rfl) hP hD hS K
        obtain ⟨q5, hq5, h⟩ := bd_some h
        refine L21_3 FU l1 l2 (0 : Int32) (upd fxu l2.toNatClampNeg (1 : Int32)) q5 H locs ls hq5 (lv_sub hl [1, 2, 3, 0] rfl) hP hD hS (fun H locs ls hl hP hD hS => ?_)
        refine lv_aload_n hx hb dX5_fromRising_87 rfl (lv_at hl 0 rfl) ?_
        refine va_get (D := (dC, dI)) (ci := 5) (v := .ref axu) (C := RX5) (T := TX5) (N := 11) hx hb hts hin_X5 hown hK hP 0 rfl rfl 6 (by decide) (hf_29) (fun _ h9 => h9) rfl dX5_fromRising_88 ?_
        refine lv_iload_n hx hb dX5_fromRising_91 rfl (lv_at hl 2 rfl) ?_
        obtain ⟨hi, h⟩ := gin_some h
        refine va_iald hx hb hK hP 2 0 rfl rfl hi dX5_fromRising_92 ?_
        refine lv_iload_n hx hb dX5_fromRising_93 rfl (lv_at hl 1 rfl) ?_
        refine lv_icmp_le (tgt := 106) hx hb dX5_fromRising_94 (by decide) (fun c6 => ?_) (fun c6 => ?_)
        · rw [if_pos c6] at h
          refine lv_iload_n hx hb dX5_fromRising_106 rfl (lv_at hl 1 rfl) ?_
          refine lv_istore_n (lv' := [(1, .int l1), (0, .ref ax), (2, .int l2), (3, .int q5.1)]) hx hb dX5_fromRising_107 rfl hl (by decide) rfl (fun ls hl => ?_)
          refine lv_iinc (v := l2 + (1 : Int32)) (lv' := [(2, .int (l2 + (1 : Int32))), (1, .int l1), (0, .ref ax), (3, .int q5.1)]) hx hb dX5_fromRising_108 hl (k := 2) rfl rfl (by decide) rfl (fun ls hl => ?_)
          refine lv_goto (tgt := 4) hx hb dX5_fromRising_111 (by decide) ?_
          exact ih l1 (l2 + (1 : Int32)) q5.2 rs H locs ls h (lv_sub hl [2, 1, 0] rfl) hP hD hS K
        · rw [if_neg c6] at h
          refine lv_aload_n hx hb dX5_fromRising_97 rfl (lv_at hl 0 rfl) ?_
          refine va_get (D := (dC, dI)) (ci := 5) (v := .ref axu) (C := RX5) (T := TX5) (N := 11) hx hb hts hin_X5 hown hK hP 0 rfl rfl 6 (by decide) (hf_29) (fun _ h9 => h9) rfl dX5_fromRising_98 ?_
          refine lv_iload_n hx hb dX5_fromRising_101 rfl (lv_at hl 2 rfl) ?_
          obtain ⟨hi, h⟩ := gin_some h
          refine va_iald hx hb hK hP 2 0 rfl rfl hi dX5_fromRising_102 ?_
          refine lv_goto (tgt := 107) hx hb dX5_fromRising_103 (by decide) ?_
          refine lv_istore_n (lv' := [(1, .int (q5.2 l2.toNatClampNeg)), (0, .ref ax), (2, .int l2), (3, .int q5.1)]) hx hb dX5_fromRising_107 rfl hl (by decide) rfl (fun ls hl => ?_)
          refine lv_iinc (v := l2 + (1 : Int32)) (lv' := [(2, .int (l2 + (1 : Int32))), (1, .int (q5.2 l2.toNatClampNeg)), (0, .ref ax), (3, .int q5.1)]) hx hb dX5_fromRising_108 hl (k := 2) rfl rfl (by decide) rfl (fun ls hl => ?_)
          refine lv_goto (tgt := 4) hx hb dX5_fromRising_111 (by decide) ?_
          exact ih (q5.2 l2.toNatClampNeg) (l2 + (1 : Int32)) q5.2 rs H locs ls h (lv_sub hl [2, 1, 0] rfl) hP hD hS K
  obtain ⟨q9, hq9, h⟩ := bd_some h
  refine L4_7 FU (0 : Int32) (0 : Int32) fxu q9 H locs ls hq9 (lv_sub hl [2, 1, 0] rfl) hP hD hS (fun H locs ls hl hP hD hS => ?_)
  refine lv_aload_n hx hb dX5_fromRising_114 rfl (lv_at hl 0 rfl) ?_
  refine va_get (D := (dC, dI)) (ci := 5) (v := .int vxn) (C := RX5) (T := TX5) (N := 11) hx hb hts hin_X5 hown hK hP 0 rfl rfl 0 (by decide) (hf_7) (fun _ h9 => h9) rfl dX5_fromRising_115 ?_
  refine lv_iload_n hx hb dX5_fromRising_118 rfl (lv_at hl 1 rfl) ?_
  refine lv_isub hx hb dX5_fromRising_119 ?_
  have h0 := Option.some.inj h
  subst h0
  exact W.iret hx hb hr (fun t ht hW => ⟨⟨_, (), rfl, rfl, QW_mk hP hK hD ht hW⟩, hS.F ht⟩) hS.2.2 dX5_fromRising_120

noncomputable def fX5_fromMirrored_L4 (n : Nat) (l1 : Int32) (l2 : Int32) (vxn : Int32) (fxi : Nat → Int32) : Option (Int32 × Int32) := match n with
  | 0 => none
  | n + 1 => if vxn ≤ l2 then (some (l1, l2)) else (if ((vxn - (1 : Int32)) - l2) ≤ l2 then (fX5_fromMirrored_L4 n (l1 + (0 : Int32)) (l2 + (1 : Int32)) vxn fxi) else (gin l2 8 (gin ((vxn - (1 : Int32)) - l2) 8 (if (fxi l2.toNatClampNeg) = (fxi ((vxn - (1 : Int32)) - l2).toNatClampNeg) then (fX5_fromMirrored_L4 n (l1 + (0 : Int32)) (l2 + (1 : Int32)) vxn fxi) else (fX5_fromMirrored_L4 n (l1 + (1 : Int32)) (l2 + (1 : Int32)) vxn fxi)))))
theorem fX5_fromMirrored_L4_0 (l1 : Int32) (l2 : Int32) (vxn : Int32) (fxi : Nat → Int32) : fX5_fromMirrored_L4 0 l1 l2 vxn fxi = none := rfl
theorem fX5_fromMirrored_L4_s (n : Nat) (l1 : Int32) (l2 : Int32) (vxn : Int32) (fxi : Nat → Int32) : fX5_fromMirrored_L4 (n + 1) l1 l2 vxn fxi = if vxn ≤ l2 then (some (l1, l2)) else (if ((vxn - (1 : Int32)) - l2) ≤ l2 then (fX5_fromMirrored_L4 n (l1 + (0 : Int32)) (l2 + (1 : Int32)) vxn fxi) else (gin l2 8 (gin ((vxn - (1 : Int32)) - l2) 8 (if (fxi l2.toNatClampNeg) = (fxi ((vxn - (1 : Int32)) - l2).toNatClampNeg) then (fX5_fromMirrored_L4 n (l1 + (0 : Int32)) (l2 + (1 : Int32)) vxn fxi) else (fX5_fromMirrored_L4 n (l1 + (1 : Int32)) (l2 + (1 : Int32)) vxn fxi))))) := rfl
noncomputable def fX5_fromMirrored (vxn : Int32) (fxi : Nat → Int32)  : Option (Int32) := bd (fX5_fromMirrored_L4 FU (0 : Int32) (0 : Int32) vxn fxi) fun q5 => some q5.1
set_option maxHeartbeats 4000000 in
set_option maxRecDepth 100000 in
theorem c_X5_fromMirrored (l : Launch) (dC : Nat → ClassId) (dI : Nat → Nat → Nat) (cy : ClassId) (ax axr axb axj axi axu : Nat) (sz : Nat) (vxn : Int32) (vxk : Int32) (vxA : Int64) (vxB : Int64) (vxC : Int64) (vxE : Int64) (fxi : Nat → Int32)  (res : Int32) (h : fX5_fromMirrored vxn fxi = some res) : Met l yX5_fromMirrored wsX5_fromMirrored ({ frames := 0, cells := 0, slots := 0, locals := 0 }) (va_Pc [.ref ax] (PW (dC, dI) cy sz [(ax, .inr (5, [.int vxn, .ref axr, .ref axb, .ref axj, .int vxk, .ref axi, .ref axu, .long vxA, .long vxB, .long vxC, .long vxE])), (axi, .inl (cy, 8, .inl fxi))])) (va_Qi (fun (r : Int32) (_ : Unit) => r = res) (QW (dC, dI) cy (va_A [(ax, .inr (5, [.int vxn, .ref axr, .ref axb, .ref axj, .int vxk, .ref axi, .ref axu, .long vxA, .long vxB, .long vxC, .long vxE])), (axi, .inl (cy, 8, .inl fxi))] sz) [(ax, .inr (5, [.int vxn, .ref axr, .ref axb, .ref axj, .int vxk, .ref axi, .ref axu, .long vxA, .long vxB, .long vxC, .long vxE])), (axi, .inl (cy, 8, .inl fxi))]) (va_A [(ax, .inr (5, [.int vxn, .ref axr, .ref axb, .ref axj, .int vxk, .ref axi, .ref axu, .long vxA, .long vxB, .long vxC, .long vxE])), (axi, .inl (cy, 8, .inl fxi))] sz)) 0 0 (va_A [(ax, .inr (5, [.int vxn, .ref axr, .ref axb, .ref axj, .int vxk, .ref axi, .ref axu, .long vxA, .long vxB, .long vxC, .long vxE])), (axi, .inl (cy, 8, .inl fxi))] sz) := by
  refine Met.ofW (cc := cX5_fromMirrored) (maxL := 3) (ret := (some .int)) (by decide) rfl ?_
  intro p e s m args below meth c s₁ B hml hv
  obtain ⟨rfl, hsz, hP, hK, hD0, hN⟩ := hv
  have hx := B.exec
  have hb := B.bytes
  have hr := B.returns
  have hts := atoms_spec (ws := wsX5_fromMirrored) B.pre
  have hown : s.vm.findClass RX5 = some m.cls := findClass_of_methodNamed B.named
  have hlocks := B.notSynchronized
  subst hsz
  have hD := hD0.self (sz := s.heap.size)
  clear hD0
  generalize hAe : va_A [(ax, .inr (5, [.int vxn, .ref axr, .ref axb, .ref axj, .int vxk, .ref axi, .ref axu, .long vxA, .long vxB, .long vxC, .long vxE])), (axi, .inl (cy, 8, .inl fxi))] s.heap.size = A at hD ⊢
  have hA : ∀ q : Nat, s.heap.size ≤ q → A q := fun q h => by rw [← hAe]; exact Or.inr h
  have hS : va_S A s.heap s.heap [] := va_S.rf
  have hl := lv_entry ([.ref ax]) (n := 3) (Nat.le_of_ble_eq_true rfl)
  rw [lg_entry_eq]
  generalize (lg_sl ([.ref ax]) ++ List.replicate (3 - (lg_sl ([.ref ax])).length) Slot.unset).toArray = ls at hl ⊢
  replace hl : lv_has ls 3 [(0, .ref ax)] := hl
  replace hP : va_P (dC, dI) vwCl [(ax, .inr (5, [.int vxn, .ref axr, .ref axb, .ref axj, .int vxk, .ref axi, .ref axu, .long vxA, .long vxB, .long vxC, .long vxE])), (axi, .inl (cy, 8, .inl fxi))] s.heap := hP
  obtain ⟨locs, hlocs⟩ : ∃ lc : List Loc, lc = [] := ⟨_, rfl⟩
  rw [← hlocs] at hS ⊢
  obtain ⟨H, hH⟩ : ∃ H : Heap, H = s.heap := ⟨_, rfl⟩
  have hP2 := hP; rw [← hH] at hP2
  have hS2 : va_S A s.heap H locs := by rw [hH]; exact hS
  suffices hgo : W p l e (headSpec wsX5_fromMirrored ({ frames := 0, cells := 0, slots := 0, locals := 0 })).room s m (([.ref ax] : List Value).toArray) below meth c H locs 0 0 (MQ below (va_Qi (fun (r : Int32) (_ : Unit) => r = res) (QW (dC, dI) cy A [(ax, .inr (5, [.int vxn, .ref axr, .ref axb, .ref axj, .int vxk, .ref axi, .ref axu, .long vxA, .long vxB, .long vxC, .long vxE])), (axi, .inl (cy, 8, .inl fxi))]) A) (([.ref ax] : List Value).toArray) s 0 0 A) (F0 m 0 ls []) by rw [hH] at hgo; exact hgo
  replace hP := hP2
  replace hS := hS2
  clear hP2 hS2
  have hin_X5 : ∀ w ∈ wsX50, w ∈ wsX5_fromMirrored := by decide +kernel
  have hf_7 := hts (.fieldLink RX5 7 "FewLooksModel" "n" "I") (by decide +kernel)
  have hf_26 := hts (.fieldLink RX5 26 "FewLooksModel" "it" "[I") (by decide +kernel)
  unfold fX5_fromMirrored at h
  refine lv_iconst (v := (0 : Int32)) hx hb dX5_fromMirrored_0 (by decide) ?_
  refine lv_istore_n (lv' := [(1, .int (0 : Int32)), (0, .ref ax)]) hx hb dX5_fromMirrored_1 rfl hl (by decide) rfl (fun ls hl => ?_)
  refine lv_iconst (v := (0 : Int32)) hx hb dX5_fromMirrored_2 (by decide) ?_
  refine lv_istore_n (lv' := [(2, .int (0 : Int32)), (1, .int (0 : Int32)), (0, .ref ax)]) hx hb dX5_fromMirrored_3 rfl hl (by decide) rfl (fun ls hl => ?_)
  have L4_3 : ∀ (n : Nat) (l1 : Int32) (l2 : Int32) (rs : (Int32 × Int32)) (H : Heap) (locs : List Loc) (ls : Array Slot), fX5_fromMirrored_L4 n l1 l2 vxn fxi = some rs → lv_has ls 3 [(0, .ref ax), (1, .int l1), (2, .int l2)] → va_P (dC, dI) vwCl [(ax, .inr (5, [.int vxn, .ref axr, .ref axb, .ref axj, .int vxk, .ref axi, .ref axu, .long vxA, .long vxB, .long vxC, .long vxE])), (axi, .inl (cy, 8, .inl fxi))] H → va_D A [(ax, .inr (5, [.int vxn, .ref axr, .ref axb, .ref axj, .int vxk, .ref axi, .ref axu, .long vxA, .long vxB, .long vxC, .long vxE])), (axi, .inl (cy, 8, .inl fxi))] → va_S A s.heap H locs → (∀ (H : Heap) (locs : List Loc) (ls : Array Slot), lv_has ls 3 [(0, .ref ax), (1, .int rs.1), (2, .int rs.2)] → va_P (dC, dI) vwCl [(ax, .inr (5, [.int vxn, .ref axr, .ref axb, .ref axj, .int vxk, .ref axi, .ref axu, .long vxA, .long vxB, .long vxC, .long vxE])), (axi, .inl (cy, 8, .inl fxi))] H → va_D A [(ax, .inr (5, [.int vxn, .ref axr, .ref axb, .ref axj, .int vxk, .ref axi, .ref axu, .long vxA, .long vxB, .long vxC, .long vxE])), (axi, .inl (cy, 8, .inl fxi))] → va_S A s.heap H locs → W p l e (headSpec wsX5_fromMirrored ({ frames := 0, cells := 0, slots := 0, locals := 0 })).room s m (([.ref ax] : List Value).toArray) below meth c H locs 0 0 (MQ below (va_Qi (fun (r : Int32) (_ : Unit) => r = res) (QW (dC, dI) cy A [(ax, .inr (5, [.int vxn, .ref axr, .ref axb, .ref axj, .int vxk, .ref axi, .ref axu, .long vxA, .long vxB, .long vxC, .long vxE])), (axi, .inl (cy, 8, .inl fxi))]) A) (([.ref ax] : List Value).toArray) s 0 0 A) (F0 m 60 ls [])) → W p l e (headSpec wsX5_fromMirrored ({ frames := 0, cells := 0, slots := 0, locals := 0 })).room s m (([.ref ax] : List Value).toArray) below meth c H locs 0 0 (MQ below (va_Qi (fun (r : Int32) (_ : Unit) => r = res) (QW (dC, dI) cy A [(ax, .inr (5, [.int vxn, .ref axr, .ref axb, .ref axj, .int vxk, .ref axi, .ref axu, .long vxA, .long vxB, .long vxC, .long vxE])), (axi, .inl (cy, 8, .inl fxi))]) A) (([.ref ax] : List Value).toArray) s 0 0 A) (F0 m 4 ls []) := by
    intro n
    induction n with
    | zero =>
      intro l1 l2 rs H locs ls h
      rw [fX5_fromMirrored_L4_0] at h
      cases h
    | succ n ih =>
      intro l1 l2 rs H locs ls h hl hP hD hS K
      rw [fX5_fromMirrored_L4_s] at h
      refine lv_iload_n hx hb dX5_fromMirrored_4 rfl (lv_at hl 2 rfl) ?_
      refine lv_aload_n hx hb dX5_fromMirrored_5 rfl (lv_at hl 0 rfl) ?_
      refine va_get (D := (dC, dI)) (ci := 5) (v := .int vxn) (C := RX5) (T := TX5) (N := 11) hx hb hts hin_X5 hown hK hP 0 rfl rfl 0 (by decide) (hf_7) (fun _ h9 => h9) rfl dX5_fromMirrored_6 ?_
      refine lv_icmp_ge (tgt := 60) hx hb dX5_fromMirrored_9 (by decide) (fun c3 => ?_) (fun c3 => ?_)
      · rw [if_pos c3] at h
        have h0 := Option.some.inj h
        subst h0
        exact K H locs ls (lv_sub hl [0, 1, 2] rfl) hP hD hS
      · rw [if_neg c3] at h
        refine lv_iload_n hx hb dX5_fromMirrored_12 rfl (lv_at hl 1 rfl) ?_
        refine lv_iload_n hx hb dX5_fromMirrored_13 rfl (lv_at hl 2 rfl) ?_
        refine lv_aload_n hx hb dX5_fromMirrored_14 rfl (lv_at hl 0 rfl) ?_
        refine va_get (D := (dC, dI)) (ci := 5) (v := .int vxn) (C := RX5) (T := TX5) (N := 11) hx hb hts hin_X5 hown hK hP 0 rfl rfl 0 (by decide) (hf_7) (fun _ h9 => h9) rfl dX5_fromMirrored_15 ?_
        refine lv_iconst (v := (1 : Int32)) hx hb dX5_fromMirrored_18 (by decide) ?_
        refine lv_isub hx hb dX5_fromMirrored_19 ?_
        refine lv_iload_n hx hb dX5_fromMirrored_20 rfl (lv_at hl 2 rfl) ?_
        refine lv_isub hx hb dX5_fromMirrored_21 ?_
        refine lv_icmp_ge (tgt := 51) hx hb dX5_fromMirrored_22 (by decide) (fun c2 => ?_) (fun c2 => ?_)
        · rw [if_pos c2] at h
          refine lv_iconst (v := (0 : Int32)) hx hb dX5_fromMirrored_51 (by decide) ?_
          refine lv_iadd hx hb dX5_fromMirrored_52 ?_
          refine lv_istore_n (lv' := [(1, .int (l1 + (0 : Int32))), (0, .ref ax), (2, .int l2)]) hx hb dX5_fromMirrored_53 rfl hl (by decide) rfl (fun ls hl => ?_)
          refine lv_iinc (v := l2 + (1 : Int32)) (lv' := [(2, .int (l2 + (1 : Int32))), (1, .int (l1 + (0 : Int32))), (0, .ref ax)]) hx hb dX5_fromMirrored_54 hl (k := 2) rfl rfl (by decide) rfl (fun ls hl => ?_)
          refine lv_goto (tgt := 4) hx hb dX5_fromMirrored_57 (by decide) ?_
          exact ih (l1 + (0 : Int32)) (l2 + (1 : Int32)) rs H locs ls h (lv_sub hl [2, 1, 0] rfl) hP hD hS K
        · rw [if_neg c2] at h
          refine lv_aload_n hx hb dX5_fromMirrored_25 rfl (lv_at hl 0 rfl) ?_
          refine va_get (D := (dC, dI)) (ci := 5) (v := .ref axi) (C := RX5) (T := TX5) (N := 11) hx hb hts hin_X5 hown hK hP 0 rfl rfl 5 (by decide) (hf_26) (fun _ h9 => h9) rfl dX5_fromMirrored_26 ?_
          refine lv_iload_n hx hb dX5_fromMirrored_29 rfl (lv_at hl 2 rfl) ?_
          obtain ⟨hi, h⟩ := gin_some h
          refine va_iald hx hb hK hP 1 0 rfl rfl hi dX5_fromMirrored_30 ?_
          refine lv_aload_n hx hb dX5_fromMirrored_31 rfl (lv_at hl 0 rfl) ?_
          refine va_get (D := (dC, dI)) (ci := 5) (v := .ref axi) (C := RX5) (T := TX5) (N := 11) hx hb hts hin_X5 hown hK hP 0 rfl rfl 5 (by decide) (hf_26) (fun _ h9 => h9) rfl dX5_fromMirrored_32 ?_
          refine lv_aload_n hx hb dX5_fromMirrored_35 rfl (lv_at hl 0 rfl) ?_
          refine va_get (D := (dC, dI)) (ci := 5) (v := .int vxn) (C := RX5) (T := TX5) (N := 11) hx hb hts hin_X5 hown hK hP 0 rfl rfl 0 (by decide) (hf_7) (fun _ h9 => h9) rfl dX5_fromMirrored_36 ?_
          refine lv_iconst (v := (1 : Int32)) hx hb dX5_fromMirrored_39 (by decide) ?_
          refine lv_isub hx hb dX5_fromMirrored_40 ?_
          refine lv_iload_n hx hb dX5_fromMirrored_41 rfl (lv_at hl 2 rfl) ?_
          refine lv_isub hx hb dX5_fromMirrored_42 ?_
          obtain ⟨hi, h⟩ := gin_some h
          refine va_iald hx hb hK hP 1 0 rfl rfl hi dX5_fromMirrored_43 ?_
          refine lv_icmp_eq (tgt := 51) hx hb dX5_fromMirrored_44 (by decide) (fun c1 => ?_) (fun c1 => ?_)
          · rw [if_pos c1] at h
            refine lv_iconst (v := (0 : Int32)) hx hb dX5_fromMirrored_51 (by decide) ?_
            refine lv_iadd hx hb dX5_fromMirrored_52 ?_
            refine lv_istore_n (lv' := [(1, .int (l1 + (0 : Int32))), (0, .ref ax), (2, .int l2)]) hx hb dX5_fromMirrored_53 rfl hl (by decide) rfl (fun ls hl => ?_)
            refine lv_iinc (v := l2 + (1 : Int32)) (lv' := [(2, .int (l2 + (1 : Int32))), (1, .int (l1 + (0 : Int32))), (0, .ref ax)]) hx hb dX5_fromMirrored_54 hl (k := 2) rfl rfl (by decide) rfl (fun ls hl => ?_)
            refine lv_goto (tgt := 4) hx hb dX5_fromMirrored_57 (by decide) ?_
            exact ih (l1 + (0 : Int32)) (l2 + (1 : Int32)) rs H locs ls h (lv_sub hl [2, 1, 0] rfl) hP hD hS K
          · rw [if_neg c1] at h
            refine lv_iconst (v := (1 : Int32)) hx hb dX5_fromMirrored_47 (by decide) ?_
            refine lv_goto (tgt := 52) hx hb dX5_fromMirrored_48 (by decide) ?_
            refine lv_iadd hx hb dX5_fromMirrored_52 ?_
            refine lv_istore_n (lv' := [(1, .int (l1 + (1 : Int32))), (0, .ref ax), (2, .int l2)]) hx hb dX5_fromMirrored_53 rfl hl (by decide) rfl (fun ls hl => ?_)
            refine lv_iinc (v := l2 + (1 : Int32)) (lv' := [(2, .int (l2 + (1 : Int32))), (1, .int (l1 + (1 : Int32))), (0, .ref ax)]) hx hb dX5_fromMirrored_54 hl (k := 2) rfl rfl (by decide) rfl (fun ls hl => ?_)
            refine lv_goto (tgt := 4) hx hb dX5_fromMirrored_57 (by decide) ?_
            exact ih (l1 + (1 : Int32)) (l2 + (1 : Int32)) rs H locs ls h (lv_sub hl [2, 1, 0] rfl) hP hD hS K
  obtain ⟨q5, hq5, h⟩ := bd_some h
  refine L4_3 FU (0 : Int32) (0 : Int32) q5 H locs ls hq5 (lv_sub hl [2, 1, 0] rfl) hP hD hS (fun H locs ls hl hP hD hS => ?_)
  refine lv_iload_n hx hb dX5_fromMirrored_60 rfl (lv_at hl 1 rfl) ?_
  have h0 := Option.some.inj h
  subst h0
  exact W.iret hx hb hr (fun t ht hW => ⟨⟨_, (), rfl, rfl, QW_mk hP hK hD ht hW⟩, hS.F ht⟩) hS.2.2 dX5_fromMirrored_61

noncomputable def fX5_fromEven_L4 (n : Nat) (l1 : Int32) (l2 : Int32) (vxn : Int32) (fxi : Nat → Int32) : Option (Int32 × Int32) := match n with
  | 0 => none
  | n + 1 => if vxn ≤ l2 then (some (l1, l2)) else (gin l2 8 (fX5_fromEven_L4 n (l1 + (fxi l2.toNatClampNeg)) (l2 + (1 : Int32)) vxn fxi))
theorem fX5_fromEven_L4_0 (l1 : Int32) (l2 : Int32) (vxn : Int32) (fxi : Nat → Int32) : fX5_fromEven_L4 0 l1 l2 vxn fxi = none := rfl
theorem fX5_fromEven_L4_s (n : Nat) (l1 : Int32) (l2 : Int32) (vxn : Int32) (fxi : Nat → Int32) : fX5_fromEven_L4 (n + 1) l1 l2 vxn fxi = if vxn ≤ l2 then (some (l1, l2)) else (gin l2 8 (fX5_fromEven_L4 n (l1 + (fxi l2.toNatClampNeg)) (l2 + (1 : Int32)) vxn fxi)) := rfl
noncomputable def fX5_fromEven (vxn : Int32) (fxi : Nat → Int32)  : Option (Int32) := bd (fX5_fromEven_L4 FU (0 : Int32) (0 : Int32) vxn fxi) fun q3 => some (q3.1 - q3.1 / (2 : Int32) * (2 : Int32))
set_option maxHeartbeats 4000000 in
set_option maxRecDepth 100000 in
theorem c_X5_fromEven (l : Launch) (dC : Nat → ClassId) (dI : Nat → Nat → Nat) (cy : ClassId) (ax axr axb axj axi axu : Nat) (sz : Nat) (vxn : Int32) (vxk : Int32) (vxA : Int64) (vxB : Int64) (vxC : Int64) (vxE : Int64) (fxi : Nat → Int32)  (res : Int32) (h : fX5_fromEven vxn fxi = some res) : Met l yX5_fromEven wsX5_fromEven ({ frames := 0, cells := 0, slots := 0, locals := 0 }) (va_Pc [.ref ax] (PW (dC, dI) cy sz [(ax, .inr (5, [.int vxn, .ref axr, .ref axb, .ref axj, .int vxk, .ref axi, .ref axu, .long vxA, .long vxB, .long vxC, .long vxE])), (axi, .inl (cy, 8, .inl fxi))])) (va_Qi (fun (r : Int32) (_ : Unit) => r = res) (QW (dC, dI) cy (va_A [(ax, .inr (5, [.int vxn, .ref axr, .ref axb, .ref axj, .int vxk, .ref axi, .ref axu, .long vxA, .long vxB, .long vxC, .long vxE])), (axi, .inl (cy, 8, .inl fxi))] sz) [(ax, .inr (5, [.int vxn, .ref axr, .ref axb, .ref axj, .int vxk, .ref axi, .ref axu, .long vxA, .long vxB, .long vxC, .long vxE])), (axi, .inl (cy, 8, .inl fxi))]) (va_A [(ax, .inr (5, [.int vxn, .ref axr, .ref axb, .ref axj, .int vxk, .ref axi, .ref axu, .long vxA, .long vxB, .long vxC, .long vxE])), (axi, .inl (cy, 8, .inl fxi))] sz)) 0 0 (va_A [(ax, .inr (5, [.int vxn, .ref axr, .ref axb, .ref axj, .int vxk, .ref axi, .ref axu, .long vxA, .long vxB, .long vxC, .long vxE])), (axi, .inl (cy, 8, .inl fxi))] sz) := by
  refine Met.ofW (cc := cX5_fromEven) (maxL := 3) (ret := (some .int)) (by decide) rfl ?_
  intro p e s m args below meth c s₁ B hml hv
  obtain ⟨rfl, hsz, hP, hK, hD0, hN⟩ := hv
  have hx := B.exec
  have hb := B.bytes
  have hr := B.returns
  have hts := atoms_spec (ws := wsX5_fromEven) B.pre
  have hown : s.vm.findClass RX5 = some m.cls := findClass_of_methodNamed B.named
  have hlocks := B.notSynchronized
  subst hsz
  have hD := hD0.self (sz := s.heap.size)
  clear hD0
  generalize hAe : va_A [(ax, .inr (5, [.int vxn, .ref axr, .ref axb, .ref axj, .int vxk, .ref axi, .ref axu, .long vxA, .long vxB, .long vxC, .long vxE])), (axi, .inl (cy, 8, .inl fxi))] s.heap.size = A at hD ⊢
  have hA : ∀ q : Nat, s.heap.size ≤ q → A q := fun q h => by rw [← hAe]; exact Or.inr h
  have hS : va_S A s.heap s.heap [] := va_S.rf
  have hl := lv_entry ([.ref ax]) (n := 3) (Nat.le_of_ble_eq_true rfl)
  rw [lg_entry_eq]
  generalize (lg_sl ([.ref ax]) ++ List.replicate (3 - (lg_sl ([.ref ax])).length) Slot.unset).toArray = ls at hl ⊢
  replace hl : lv_has ls 3 [(0, .ref ax)] := hl
  replace hP : va_P (dC, dI) vwCl [(ax, .inr (5, [.int vxn, .ref axr, .ref axb, .ref axj, .int vxk, .ref axi, .ref axu, .long vxA, .long vxB, .long vxC, .long vxE])), (axi, .inl (cy, 8, .inl fxi))] s.heap := hP
  obtain ⟨locs, hlocs⟩ : ∃ lc : List Loc, lc = [] := ⟨_, rfl⟩
  rw [← hlocs] at hS ⊢
  obtain ⟨H, hH⟩ : ∃ H : Heap, H = s.heap := ⟨_, rfl⟩
  have hP2 := hP; rw [← hH] at hP2
  have hS2 : va_S A s.heap H locs := by rw [hH]; exact hS
  suffices hgo : W p l e (headSpec wsX5_fromEven ({ frames := 0, cells := 0, slots := 0, locals := 0 })).room s m (([.ref ax] : List Value).toArray) below meth c H locs 0 0 (MQ below (va_Qi (fun (r : Int32) (_ : Unit) => r = res) (QW (dC, dI) cy A [(ax, .inr (5, [.int vxn, .ref axr, .ref axb, .ref axj, .int vxk, .ref axi, .ref axu, .long vxA, .long vxB, .long vxC, .long vxE])), (axi, .inl (cy, 8, .inl fxi))]) A) (([.ref ax] : List Value).toArray) s 0 0 A) (F0 m 0 ls []) by rw [hH] at hgo; exact hgo
  replace hP := hP2
  replace hS := hS2
  clear hP2 hS2
  have hin_X5 : ∀ w ∈ wsX50, w ∈ wsX5_fromEven := by decide +kernel
  have hf_7 := hts (.fieldLink RX5 7 "FewLooksModel" "n" "I") (by decide +kernel)
  have hf_26 := hts (.fieldLink RX5 26 "FewLooksModel" "it" "[I") (by decide +kernel)
  unfold fX5_fromEven at h
  refine lv_iconst (v := (0 : Int32)) hx hb dX5_fromEven_0 (by decide) ?_
  refine lv_istore_n (lv' := [(1, .int (0 : Int32)), (0, .ref ax)]) hx hb dX5_fromEven_1 rfl hl (by decide) rfl (fun ls hl => ?_)
  refine lv_iconst (v := (0 : Int32)) hx hb dX5_fromEven_2 (by decide) ?_
  refine lv_istore_n (lv' := [(2, .int (0 : Int32)), (1, .int (0 : Int32)), (0, .ref ax)]) hx hb dX5_fromEven_3 rfl hl (by decide) rfl (fun ls hl => ?_)
  have L4_1 : ∀ (n : Nat) (l1 : Int32) (l2 : Int32) (rs : (Int32 × Int32)) (H : Heap) (locs : List Loc) (ls : Array Slot), fX5_fromEven_L4 n l1 l2 vxn fxi = some rs → lv_has ls 3 [(0, .ref ax), (1, .int l1), (2, .int l2)] → va_P (dC, dI) vwCl [(ax, .inr (5, [.int vxn, .ref axr, .ref axb, .ref axj, .int vxk, .ref axi, .ref axu, .long vxA, .long vxB, .long vxC, .long vxE])), (axi, .inl (cy, 8, .inl fxi))] H → va_D A [(ax, .inr (5, [.int vxn, .ref axr, .ref axb, .ref axj, .int vxk, .ref axi, .ref axu, .long vxA, .long vxB, .long vxC, .long vxE])), (axi, .inl (cy, 8, .inl fxi))] → va_S A s.heap H locs → (∀ (H : Heap) (locs : List Loc) (ls : Array Slot), lv_has ls 3 [(0, .ref ax), (1, .int rs.1), (2, .int rs.2)] → va_P (dC, dI) vwCl [(ax, .inr (5, [.int vxn, .ref axr, .ref axb, .ref axj, .int vxk, .ref axi, .ref axu, .long vxA, .long vxB, .long vxC, .long vxE])), (axi, .inl (cy, 8, .inl fxi))] H → va_D A [(ax, .inr (5, [.int vxn, .ref axr, .ref axb, .ref axj, .int vxk, .ref axi, .ref axu, .long vxA, .long vxB, .long vxC, .long vxE])), (axi, .inl (cy, 8, .inl fxi))] → va_S A s.heap H locs → W p l e (headSpec wsX5_fromEven ({ frames := 0, cells := 0, slots := 0, locals := 0 })).room s m (([.ref ax] : List Value).toArray) below meth c H locs 0 0 (MQ below (va_Qi (fun (r : Int32) (_ : Unit) => r = res) (QW (dC, dI) cy A [(ax, .inr (5, [.int vxn, .ref axr, .ref axb, .ref axj, .int vxk, .ref axi, .ref axu, .long vxA, .long vxB, .long vxC, .long vxE])), (axi, .inl (cy, 8, .inl fxi))]) A) (([.ref ax] : List Value).toArray) s 0 0 A) (F0 m 27 ls [])) → W p l e (headSpec wsX5_fromEven ({ frames := 0, cells := 0, slots := 0, locals := 0 })).room s m (([.ref ax] : List Value).toArray) below meth c H locs 0 0 (MQ below (va_Qi (fun (r : Int32) (_ : Unit) => r = res) (QW (dC, dI) cy A [(ax, .inr (5, [.int vxn, .ref axr, .ref axb, .ref axj, .int vxk, .ref axi, .ref axu, .long vxA, .long vxB, .long vxC, .long vxE])), (axi, .inl (cy, 8, .inl fxi))]) A) (([.ref ax] : List Value).toArray) s 0 0 A) (F0 m 4 ls []) := by
    intro n
    induction n with
    | zero =>
      intro l1 l2 rs H locs ls h
      rw [fX5_fromEven_L4_0] at h
      cases h
    | succ n ih =>
      intro l1 l2 rs H locs ls h hl hP hD hS K
      rw [fX5_fromEven_L4_s] at h
      refine lv_iload_n hx hb dX5_fromEven_4 rfl (lv_at hl 2 rfl) ?_
      refine lv_aload_n hx hb dX5_fromEven_5 rfl (lv_at hl 0 rfl) ?_
      refine va_get (D := (dC, dI)) (ci := 5) (v := .int vxn) (C := RX5) (T := TX5) (N := 11) hx hb hts hin_X5 hown hK hP 0 rfl rfl 0 (by decide) (hf_7) (fun _ h9 => h9) rfl dX5_fromEven_6 ?_
      refine lv_icmp_ge (tgt := 27) hx hb dX5_fromEven_9 (by decide) (fun c1 => ?_) (fun c1 => ?_)
      · rw [if_pos c1] at h
        have h0 := Option.some.inj h
        subst h0
        exact K H locs ls (lv_sub hl [0, 1, 2] rfl) hP hD hS
      · rw [if_neg c1] at h
        refine lv_iload_n hx hb dX5_fromEven_12 rfl (lv_at hl 1 rfl) ?_
        refine lv_aload_n hx hb dX5_fromEven_13 rfl (lv_at hl 0 rfl) ?_
        refine va_get (D := (dC, dI)) (ci := 5) (v := .ref axi) (C := RX5) (T := TX5) (N := 11) hx hb hts hin_X5 hown hK hP 0 rfl rfl 5 (by decide) (hf_26) (fun _ h9 => h9) rfl dX5_fromEven_14 ?_
        refine lv_iload_n hx hb dX5_fromEven_17 rfl (lv_at hl 2 rfl) ?_
        obtain ⟨hi, h⟩ := gin_some h
        refine va_iald hx hb hK hP 1 0 rfl rfl hi dX5_fromEven_18 ?_
        refine lv_iadd hx hb dX5_fromEven_19 ?_
        refine lv_istore_n (lv' := [(1, .int (l1 + (fxi l2.toNatClampNeg))), (0, .ref ax), (2, .int l2)]) hx hb dX5_fromEven_20 rfl hl (by decide) rfl (fun ls hl => ?_)
        refine lv_iinc (v := l2 + (1 : Int32)) (lv' := [(2, .int (l2 + (1 : Int32))), (1, .int (l1 + (fxi l2.toNatClampNeg))), (0, .ref ax)]) hx hb dX5_fromEven_21 hl (k := 2) rfl rfl (by decide) rfl (fun ls hl => ?_)
        refine lv_goto (tgt := 4) hx hb dX5_fromEven_24 (by decide) ?_
        exact ih (l1 + (fxi l2.toNatClampNeg)) (l2 + (1 : Int32)) rs H locs ls h (lv_sub hl [2, 1, 0] rfl) hP hD hS K
  obtain ⟨q3, hq3, h⟩ := bd_some h
  refine L4_1 FU (0 : Int32) (0 : Int32) q3 H locs ls hq3 (lv_sub hl [2, 1, 0] rfl) hP hD hS (fun H locs ls hl hP hD hS => ?_)
  refine lv_iload_n hx hb dX5_fromEven_27 rfl (lv_at hl 1 rfl) ?_
  refine lv_iconst (v := (2 : Int32)) hx hb dX5_fromEven_28 (by decide) ?_
  refine lv_irem hx hb dX5_fromEven_29 (by decide) ?_
  have h0 := Option.some.inj h
  subst h0
  exact W.iret hx hb hr (fun t ht hW => ⟨⟨_, (), rfl, rfl, QW_mk hP hK hD ht hW⟩, hS.F ht⟩) hS.2.2 dX5_fromEven_30

noncomputable def fX5_fromShift_L50 (n : Nat) (l1 : Int32) (l2 : Int32) (l4 : Int32) (l5 : Int32) (l7 : Int32) (l8 : Int32) (l9 : Int32) (vxn : Int32) (fxi : Nat → Int32) : Option (Int32 × Int32 × Int32 × Int32) := match n with
  | 0 => none
  | n + 1 => if l5 = 0 then (gin l9 8 (bd (if (fxi l9.toNatClampNeg) = l7 then (some (1 : Int32)) else (some (0 : Int32))) fun q1 => gnz vxn (fX5_fromShift_L50 n l1 (l2 ||| ((1 : Int32) <<< (l9 &&& 31))) l4 (l5 + (1 : Int32)) l7 (l8 + q1) ((l9 + l1) - (l9 + l1) / vxn * vxn) vxn fxi))) else (if l9 = l4 then (some (l2, l5, l8, l9)) else (gin l9 8 (bd (if (fxi l9.toNatClampNeg) = l7 then (some (1 : Int32)) else (some (0 : Int32))) fun q3 => gnz vxn (fX5_fromShift_L50 n l1 (l2 ||| ((1 : Int32) <<< (l9 &&& 31))) l4 (l5 + (1 : Int32)) l7 (l8 + q3) ((l9 + l1) - (l9 + l1) / vxn * vxn) vxn fxi))))
theorem fX5_fromShift_L50_0 (l1 : Int32) (l2 : Int32) (l4 : Int32) (l5 : Int32) (l7 : Int32) (l8 : Int32) (l9 : Int32) (vxn : Int32) (fxi : Nat → Int32) : fX5_fromShift_L50 0 l1 l2 l4 l5 l7 l8 l9 vxn fxi = none := rfl
theorem fX5_fromShift_L50_s (n : Nat) (l1 : Int32) (l2 : Int32) (l4 : Int32) (l5 : Int32) (l7 : Int32) (l8 : Int32) (l9 : Int32) (vxn : Int32) (fxi : Nat → Int32) : fX5_fromShift_L50 (n + 1) l1 l2 l4 l5 l7 l8 l9 vxn fxi = if l5 = 0 then (gin l9 8 (bd (if (fxi l9.toNatClampNeg) = l7 then (some (1 : Int32)) else (some (0 : Int32))) fun q1 => gnz vxn (fX5_fromShift_L50 n l1 (l2 ||| ((1 : Int32) <<< (l9 &&& 31))) l4 (l5 + (1 : Int32)) l7 (l8 + q1) ((l9 + l1) - (l9 + l1) / vxn * vxn) vxn fxi))) else (if l9 = l4 then (some (l2, l5, l8, l9)) else (gin l9 8 (bd (if (fxi l9.toNatClampNeg) = l7 then (some (1 : Int32)) else (some (0 : Int32))) fun q3 => gnz vxn (fX5_fromShift_L50 n l1 (l2 ||| ((1 : Int32) <<< (l9 &&& 31))) l4 (l5 + (1 : Int32)) l7 (l8 + q3) ((l9 + l1) - (l9 + l1) / vxn * vxn) vxn fxi)))) := rfl
noncomputable def fX5_fromShift_L34 (n : Nat) (l1 : Int32) (l2 : Int32) (l4 : Int32) (l5 : Int32) (l6 : Int32) (l7 : Int32) (vxn : Int32) (fxi : Nat → Int32) : Option (Int32 × Int32 × Int32 × Int32) := match n with
  | 0 => none
  | n + 1 => if (4 : Int32) ≤ l7 then (some (l2, l5, l6, l7)) else (bd (fX5_fromShift_L50 FU l1 l2 l4 (0 : Int32) l7 (0 : Int32) l4 vxn fxi) fun q8 => if q8.2.2.1 ≤ l6 then (fX5_fromShift_L34 n l1 q8.1 l4 q8.2.1 l6 (l7 + (1 : Int32)) vxn fxi) else (fX5_fromShift_L34 n l1 q8.1 l4 q8.2.1 q8.2.2.1 (l7 + (1 : Int32)) vxn fxi))
theorem fX5_fromShift_L34_0 (l1 : Int32) (l2 : Int32) (l4 : Int32) (l5 : Int32) (l6 : Int32) (l7 : Int32) (vxn : Int32) (fxi : Nat → Int32) : fX5_fromShift_L34 0 l1 l2 l4 l5 l6 l7 vxn fxi = none := rfl
theorem fX5_fromShift_L34_s (n : Nat) (l1 : Int32) (l2 : Int32) (l4 : Int32) (l5 : Int32) (l6 : Int32) (l7 : Int32) (vxn : Int32) (fxi : Nat → Int32) : fX5_fromShift_L34 (n + 1) l1 l2 l4 l5 l6 l7 vxn fxi = if (4 : Int32) ≤ l7 then (some (l2, l5, l6, l7)) else (bd (fX5_fromShift_L50 FU l1 l2 l4 (0 : Int32) l7 (0 : Int32) l4 vxn fxi) fun q8 => if q8.2.2.1 ≤ l6 then (fX5_fromShift_L34 n l1 q8.1 l4 q8.2.1 l6 (l7 + (1 : Int32)) vxn fxi) else (fX5_fromShift_L34 n l1 q8.1 l4 q8.2.1 q8.2.2.1 (l7 + (1 : Int32)) vxn fxi)) := rfl
noncomputable def fX5_fromShift_L7 (n : Nat) (l1 : Int32) (l2 : Int32) (l3 : Int32) (l4 : Int32) (vxn : Int32) (fxi : Nat → Int32) : Option (Int32 × Int32 × Int32) := match n with
  | 0 => none
  | n + 1 => if vxn ≤ l4 then (some (l2, l3, l4)) else (if ((l2 >>> (l4 &&& 31)) &&& (1 : Int32)) = 0 then (bd (fX5_fromShift_L34 FU l1 l2 l4 (0 : Int32) (0 : Int32) (0 : Int32) vxn fxi) fun q12 => fX5_fromShift_L7 n l1 q12.1 (l3 + (q12.2.1 - q12.2.2.1)) (l4 + (1 : Int32)) vxn fxi) else (fX5_fromShift_L7 n l1 l2 l3 (l4 + (1 : Int32)) vxn fxi))
theorem fX5_fromShift_L7_0 (l1 : Int32) (l2 : Int32) (l3 : Int32) (l4 : Int32) (vxn : Int32) (fxi : Nat → Int32) : fX5_fromShift_L7 0 l1 l2 l3 l4 vxn fxi = none := rfl
theorem fX5_fromShift_L7_s (n : Nat) (l1 : Int32) (l2 : Int32) (l3 : Int32) (l4 : Int32) (vxn : Int32) (fxi : Nat → Int32) : fX5_fromShift_L7 (n + 1) l1 l2 l3 l4 vxn fxi = if vxn ≤ l4 then (some (l2, l3, l4)) else (if ((l2 >>> (l4 &&& 31)) &&& (1 : Int32)) = 0 then (bd (fX5_fromShift_L34 FU l1 l2 l4 (0 : Int32) (0 : Int32) (0 : Int32) vxn fxi) fun q12 => fX5_fromShift_L7 n l1 q12.1 (l3 + (q12.2.1 - q12.2.2.1)) (l4 + (1 : Int32)) vxn fxi) else (fX5_fromShift_L7 n l1 l2 l3 (l4 + (1 : Int32)) vxn fxi)) := rfl
noncomputable def fX5_fromShift (vxn : Int32) (fxi : Nat → Int32) (p0 : Int32) : Option (Int32) := bd (fX5_fromShift_L7 FU p0 (0 : Int32) (0 : Int32) (0 : Int32) vxn fxi) fun q16 => some q16.2.1
set_option maxHeartbeats 4000000 in
set_option maxRecDepth 100000 in
theorem c_X5_fromShift (l : Launch) (dC : Nat → ClassId) (dI : Nat → Nat → Nat) (cy : ClassId) (ax axr axb axj axi axu : Nat) (sz : Nat) (vxn : Int32) (vxk : Int32) (vxA : Int64) (vxB : Int64) (vxC : Int64) (vxE : Int64) (fxi : Nat → Int32) (p0 : Int32) (res : Int32) (h : fX5_fromShift vxn fxi p0 = some res) : Met l yX5_fromShift wsX5_fromShift ({ frames := 0, cells := 0, slots := 0, locals := 0 }) (va_Pc [.ref ax, .int p0] (PW (dC, dI) cy sz [(ax, .inr (5, [.int vxn, .ref axr, .ref axb, .ref axj, .int vxk, .ref axi, .ref axu, .long vxA, .long vxB, .long vxC, .long vxE])), (axi, .inl (cy, 8, .inl fxi))])) (va_Qi (fun (r : Int32) (_ : Unit) => r = res) (QW (dC, dI) cy (va_A [(ax, .inr (5, [.int vxn, .ref axr, .ref axb, .ref axj, .int vxk, .ref axi, .ref axu, .long vxA, .long vxB, .long vxC, .long vxE])), (axi, .inl (cy, 8, .inl fxi))] sz) [(ax, .inr (5, [.int vxn, .ref axr, .ref axb, .ref axj, .int vxk, .ref axi, .ref axu, .long vxA, .long vxB, .long vxC, .long vxE])), (axi, .inl (cy, 8, .inl fxi))]) (va_A [(ax, .inr (5, [.int vxn, .ref axr, .ref axb, .ref axj, .int vxk, .ref axi, .ref axu, .long vxA, .long vxB, .long vxC, .long vxE])), (axi, .inl (cy, 8, .inl fxi))] sz)) 0 0 (va_A [(ax, .inr (5, [.int vxn, .ref axr, .ref axb, .ref axj, .int vxk, .ref axi, .ref axu, .long vxA, .long vxB, .long vxC, .long vxE])), (axi, .inl (cy, 8, .inl fxi))] sz) := by
  refine Met.ofW (cc := cX5_fromShift) (maxL := 10) (ret := (some .int)) (by decide) rfl ?_
  intro p e s m args below meth c s₁ B hml hv
  obtain ⟨rfl, hsz, hP, hK, hD0, hN⟩ := hv
  have hx := B.exec
  have hb := B.bytes
  have hr := B.returns
  have hts := atoms_spec (ws := wsX5_fromShift) B.pre
  have hown : s.vm.findClass RX5 = some m.cls := findClass_of_methodNamed B.named
  have hlocks := B.notSynchronized
  subst hsz
  have hD := hD0.self (sz := s.heap.size)
  clear hD0
  generalize hAe : va_A [(ax, .inr (5, [.int vxn, .ref axr, .ref axb, .ref axj, .int vxk, .ref axi, .ref axu, .long vxA, .long vxB, .long vxC, .long vxE])), (axi, .inl (cy, 8, .inl fxi))] s.heap.size = A at hD ⊢
  have hA : ∀ q : Nat, s.heap.size ≤ q → A q := fun q h => by rw [← hAe]; exact Or.inr h
  have hS : va_S A s.heap s.heap [] := va_S.rf
  have hl := lv_entry ([.ref ax, .int p0]) (n := 10) (Nat.le_of_ble_eq_true rfl)
  rw [lg_entry_eq]
  generalize (lg_sl ([.ref ax, .int p0]) ++ List.replicate (10 - (lg_sl ([.ref ax, .int p0])).length) Slot.unset).toArray = ls at hl ⊢
  replace hl : lv_has ls 10 [(0, .ref ax), (1, .int p0)] := hl
  replace hP : va_P (dC, dI) vwCl [(ax, .inr (5, [.int vxn, .ref axr, .ref axb, .ref axj, .int vxk, .ref axi, .ref axu, .long vxA, .long vxB, .long vxC, .long vxE])), (axi, .inl (cy, 8, .inl fxi))] s.heap := hP
  obtain ⟨locs, hlocs⟩ : ∃ lc : List Loc, lc = [] := ⟨_, rfl⟩
  rw [← hlocs] at hS ⊢
  obtain ⟨H, hH⟩ : ∃ H : Heap, H = s.heap := ⟨_, rfl⟩
  have hP2 := hP; rw [← hH] at hP2
  have hS2 : va_S A s.heap H locs := by rw [hH]; exact hS
  suffices hgo : W p l e (headSpec wsX5_fromShift ({ frames := 0, cells := 0, slots := 0, locals := 0 })).room s m (([.ref ax, .int p0] : List Value).toArray) below meth c H locs 0 0 (MQ below (va_Qi (fun (r : Int32) (_ : Unit) => r = res) (QW (dC, dI) cy A [(ax, .inr (5, [.int vxn, .ref axr, .ref axb, .ref axj, .int vxk, .ref axi, .ref axu, .long vxA, .long vxB, .long vxC, .long vxE])), (axi, .inl (cy, 8, .inl fxi))]) A) (([.ref ax, .int p0] : List Value).toArray) s 0 0 A) (F0 m 0 ls []) by rw [hH] at hgo; exact hgo
  replace hP := hP2
  replace hS := hS2
  clear hP2 hS2
  have hin_X5 : ∀ w ∈ wsX50, w ∈ wsX5_fromShift := by decide +kernel
  have hf_7 := hts (.fieldLink RX5 7 "FewLooksModel" "n" "I") (by decide +kernel)
  have hf_26 := hts (.fieldLink RX5 26 "FewLooksModel" "it" "[I") (by decide +kernel)
  unfold fX5_fromShift at h
  refine lv_iconst (v := (0 : Int32)) hx hb dX5_fromShift_0 (by decide) ?_
  refine lv_istore_n (lv' := [(2, .int (0 : Int32)), (0, .ref ax), (1, .int p0)]) hx hb dX5_fromShift_1 rfl hl (by decide) rfl (fun ls hl => ?_)
  refine lv_iconst (v := (0 : Int32)) hx hb dX5_fromShift_2 (by decide) ?_
  refine lv_istore_n (lv' := [(3, .int (0 : Int32)), (2, .int (0 : Int32)), (0, .ref ax), (1, .int p0)]) hx hb dX5_fromShift_3 rfl hl (by decide) rfl (fun ls hl => ?_)
  refine lv_iconst (v := (0 : Int32)) hx hb dX5_fromShift_4 (by decide) ?_
  refine lv_istore (lv' := [(4, .int (0 : Int32)), (3, .int (0 : Int32)), (2, .int (0 : Int32)), (0, .ref ax), (1, .int p0)]) hx hb dX5_fromShift_5 hl (by decide) rfl (fun ls hl => ?_)
  have L7_14 : ∀ (n : Nat) (l1 : Int32) (l2 : Int32) (l3 : Int32) (l4 : Int32) (rs : (Int32 × Int32 × Int32)) (H : Heap) (locs : List Loc) (ls : Array Slot), fX5_fromShift_L7 n l1 l2 l3 l4 vxn fxi = some rs → lv_has ls 10 [(0, .ref ax), (1, .int l1), (2, .int l2), (3, .int l3), (4, .int l4)] → va_P (dC, dI) vwCl [(ax, .inr (5, [.int vxn, .ref axr, .ref axb, .ref axj, .int vxk, .ref axi, .ref axu, .long vxA, .long vxB, .long vxC, .long vxE])), (axi, .inl (cy, 8, .inl fxi))] H → va_D A [(ax, .inr (5, [.int vxn, .ref axr, .ref axb, .ref axj, .int vxk, .ref axi, .ref axu, .long vxA, .long vxB, .long vxC, .long vxE])), (axi, .inl (cy, 8, .inl fxi))] → va_S A s.heap H locs → (∀ (H : Heap) (locs : List Loc) (ls : Array Slot), lv_has ls 10 [(0, .ref ax), (1, .int l1), (2, .int rs.1), (3, .int rs.2.1), (4, .int rs.2.2)] → va_P (dC, dI) vwCl [(ax, .inr (5, [.int vxn, .ref axr, .ref axb, .ref axj, .int vxk, .ref axi, .ref axu, .long vxA, .long vxB, .long vxC, .long vxE])), (axi, .inl (cy, 8, .inl fxi))] H → va_D A [(ax, .inr (5, [.int vxn, .ref axr, .ref axb, .ref axj, .int vxk, .ref axi, .ref axu, .long vxA, .long vxB, .long vxC, .long vxE])), (axi, .inl (cy, 8, .inl fxi))] → va_S A s.heap H locs → W p l e (headSpec wsX5_fromShift ({ frames := 0, cells := 0, slots := 0, locals := 0 })).room s m (([.ref ax, .int p0] : List Value).toArray) below meth c H locs 0 0 (MQ below (va_Qi (fun (r : Int32) (_ : Unit) => r = res) (QW (dC, dI) cy A [(ax, .inr (5, [.int vxn, .ref axr, .ref axb, .ref axj, .int vxk, .ref axi, .ref axu, .long vxA, .long vxB, .long vxC, .long vxE])), (axi, .inl (cy, 8, .inl fxi))]) A) (([.ref ax, .int p0] : List Value).toArray) s 0 0 A) (F0 m 144 ls [])) → W p l e (headSpec wsX5_fromShift ({ frames := 0, cells := 0, slots := 0, locals := 0 })).room s m (([.ref ax, .int p0] : List Value).toArray) below meth c H locs 0 0 (MQ below (va_Qi (fun (r : Int32) (_ : Unit) => r = res) (QW (dC, dI) cy A [(ax, .inr (5, [.int vxn, .ref axr, .ref axb, .ref axj, .int vxk, .ref axi, .ref axu, .long vxA, .long vxB, .long vxC, .long vxE])), (axi, .inl (cy, 8, .inl fxi))]) A) (([.ref ax, .int p0] : List Value).toArray) s 0 0 A) (F0 m 7 ls []) := by
    intro n
    induction n with
    | zero =>
      intro l1 l2 l3 l4 rs H locs ls h
      rw [fX5_fromShift_L7_0] at h
      cases h
    | succ n ih =>
      intro l1 l2 l3 l4 rs H locs ls h hl hP hD hS K
      rw [fX5_fromShift_L7_s] at h
      refine lv_iload hx hb dX5_fromShift_7 (lv_at hl 4 rfl) ?_
      refine lv_aload_n hx hb dX5_fromShift_9 rfl (lv_at hl 0 rfl) ?_
      refine va_get (D := (dC, dI)) (ci := 5) (v := .int vxn) (C := RX5) (T := TX5) (N := 11) hx hb hts hin_X5 hown hK hP 0 rfl rfl 0 (by decide) (hf_7) (fun _ h9 => h9) rfl dX5_fromShift_10 ?_
      refine lv_icmp_ge (tgt := 144) hx hb dX5_fromShift_13 (by decide) (fun c14 => ?_) (fun c14 => ?_)
      · rw [if_pos c14] at h
        have h0 := Option.some.inj h
        subst h0
        exact K H locs ls (lv_sub hl [0, 1, 2, 3, 4] rfl) hP hD hS
      · rw [if_neg c14] at h
        refine lv_iload_n hx hb dX5_fromShift_16 rfl (lv_at hl 2 rfl) ?_
        refine lv_iload hx hb dX5_fromShift_17 (lv_at hl 4 rfl) ?_
        refine lv_ishr hx hb dX5_fromShift_19 ?_
        refine lv_iconst (v := (1 : Int32)) hx hb dX5_fromShift_20 (by decide) ?_
        refine lv_iand hx hb dX5_fromShift_21 ?_
        refine lv_if_ne (tgt := 138) hx hb dX5_fromShift_22 (by decide) (fun c13 => ?_) (fun c13 => ?_)
        · rw [if_neg c13] at h
          refine lv_iinc (v := l4 + (1 : Int32)) (lv' := [(4, .int (l4 + (1 : Int32))), (0, .ref ax), (1, .int l1), (2, .int l2), (3, .int l3)]) hx hb dX5_fromShift_138 hl (k := 4) rfl rfl (by decide) rfl (fun ls hl => ?_)
          refine lv_goto (tgt := 7) hx hb dX5_fromShift_141 (by decide) ?_
          exact ih l1 l2 l3 (l4 + (1 : Int32)) rs H locs ls h (lv_sub hl [1, 2, 3, 4, 0] rfl) hP hD hS K
        · rw [if_pos c13] at h
          refine lv_iconst (v := (0 : Int32)) hx hb dX5_fromShift_25 (by decide) ?_
          refine lv_istore (lv' := [(5, .int (0 : Int32)), (0, .ref ax), (1, .int l1), (2, .int l2), (3, .int l3), (4, .int l4)]) hx hb dX5_fromShift_26 hl (by decide) rfl (fun ls hl => ?_)
          refine lv_iconst (v := (0 : Int32)) hx hb dX5_fromShift_28 (by decide) ?_
          refine lv_istore (lv' := [(6, .int (0 : Int32)), (5, .int (0 : Int32)), (0, .ref ax), (1, .int l1), (2, .int l2), (3, .int l3), (4, .int l4)]) hx hb dX5_fromShift_29 hl (by decide) rfl (fun ls hl => ?_)
          refine lv_iconst (v := (0 : Int32)) hx hb dX5_fromShift_31 (by decide) ?_
          refine lv_istore (lv' := [(7, .int (0 : Int32)), (6, .int (0 : Int32)), (5, .int (0 : Int32)), (0, .ref ax), (1, .int l1), (2, .int l2), (3, .int l3), (4, .int l4)]) hx hb dX5_fromShift_32 hl (by decide) rfl (fun ls hl => ?_)
          have L34_10 : ∀ (n : Nat) (l1 : Int32) (l2 : Int32) (l3 : Int32) (l4 : Int32) (l5 : Int32) (l6 : Int32) (l7 : Int32) (rs : (Int32 × Int32 × Int32 × Int32)) (H : Heap) (locs : List Loc) (ls : Array Slot), fX5_fromShift_L34 n l1 l2 l4 l5 l6 l7 vxn fxi = some rs → lv_has ls 10 [(0, .ref ax), (1, .int l1), (2, .int l2), (3, .int l3), (4, .int l4), (5, .int l5), (6, .int l6), (7, .int l7)] → va_P (dC, dI) vwCl [(ax, .inr (5, [.int vxn, .ref axr, .ref axb, .ref axj, .int vxk, .ref axi, .ref axu, .long vxA, .long vxB, .long vxC, .long vxE])), (axi, .inl (cy, 8, .inl fxi))] H → va_D A [(ax, .inr (5, [.int vxn, .ref axr, .ref axb, .ref axj, .int vxk, .ref axi, .ref axu, .long vxA, .long vxB, .long vxC, .long vxE])), (axi, .inl (cy, 8, .inl fxi))] → va_S A s.heap H locs → (∀ (H : Heap) (locs : List Loc) (ls : Array Slot), lv_has ls 10 [(0, .ref ax), (1, .int l1), (2, .int rs.1), (3, .int l3), (4, .int l4), (5, .int rs.2.1), (6, .int rs.2.2.1), (7, .int rs.2.2.2)] → va_P (dC, dI) vwCl [(ax, .inr (5, [.int vxn, .ref axr, .ref axb, .ref axj, .int vxk, .ref axi, .ref axu, .long vxA, .long vxB, .long vxC, .long vxE])), (axi, .inl (cy, 8, .inl fxi))] H → va_D A [(ax, .inr (5, [.int vxn, .ref axr, .ref axb, .ref axj, .int vxk, .ref axi, .ref axu, .long vxA, .long vxB, .long vxC, .long vxE])), (axi, .inl (cy, 8, .inl fxi))] → va_S A s.heap H locs → W p l e (headSpec wsX5_fromShift ({ frames := 0, cells := 0, slots := 0, locals := 0 })).room s m (([.ref ax, .int p0] : List Value).toArray) below meth c H locs 0 0 (MQ below (va_Qi (fun (r : Int32) (_ : Unit) => r = res) (QW (dC, dI) cy A [(ax, .inr (5, [.int vxn, .ref axr, .ref axb, .ref axj, .int vxk, .ref axi, .ref axu, .long vxA, .long vxB, .long vxC, .long vxE])), (axi, .inl (cy, 8, .inl fxi))]) A) (([.ref ax, .int p0] : List Value).toArray) s 0 0 A) (F0 m 130 ls [])) → W p l e (headSpec wsX5_fromShift ({ frames := 0, cells := 0, slots := 0, locals := 0 })).room s m (([.ref ax, .int p0] : List Value).toArray) below meth c H locs 0 0 (MQ below (va_Qi (fun (r : Int32) (_ : Unit) => r = res) (QW (dC, dI) cy A [(ax, .inr (5, [.int vxn, .ref axr, .ref axb, .ref axj, .int vxk, .ref axi, .ref axu, .long vxA, .long vxB, .long vxC, .long vxE])), (axi, .inl (cy, 8, .inl fxi))]) A) (([.ref ax, .int p0] : List Value).toArray) s 0 0 A) (F0 m 34 ls []) := by
            intro n
            induction n with
            | zero =>
              intro l1 l2 l3 l4 l5 l6 l7 rs H locs ls h
              rw [fX5_fromShift_L34_0] at h
              cases h
            | succ n ih =>
              intro l1 l2 l3 l4 l5 l6 l7 rs H locs ls h hl hP hD hS K
              rw [fX5_fromShift_L34_s] at h
              refine lv_iload hx hb dX5_fromShift_34 (lv_at hl 7 rfl) ?_
              refine lv_iconst (v := (4 : Int32)) hx hb dX5_fromShift_36 (by decide) ?_
              refine lv_icmp_ge (tgt := 130) hx hb dX5_fromShift_37 (by decide) (fun c10 => ?_) (fun c10 => ?_)
              · rw [if_pos c10] at h
                have h0 := Option.some.inj h
                subst h0
                exact K H locs ls (lv_sub hl [0, 1, 2, 3, 4, 5, 6, 7] rfl) hP hD hS
              · rw [if_neg c10] at h
                refine lv_iconst (v := (0 : Int32)) hx hb dX5_fromShift_40 (by decide) ?_
                refine lv_istore (lv' := [(8, .int (0 : Int32)), (0, .ref ax), (1, .int l1), (2, .int l2), (3, .int l3), (4, .int l4), (5, .int l5), (6, .int l6), (7, .int l7)]) hx hb dX5_fromShift_41 hl (by decide) rfl (fun ls hl => ?_)
                refine lv_iconst (v := (0 : Int32)) hx hb dX5_fromShift_43 (by decide) ?_
                refine lv_istore (lv' := [(5, .int (0 : Int32)), (8, .int (0 : Int32)), (0, .ref ax), (1, .int l1), (2, .int l2), (3, .int l3), (4, .int l4), (6, .int l6), (7, .int l7)]) hx hb dX5_fromShift_44 hl (by decide) rfl (fun ls hl => ?_)
                refine lv_iload hx hb dX5_fromShift_46 (lv_at hl 6 rfl) ?_
                refine lv_istore (lv' := [(9, .int l4), (5, .int (0 : Int32)), (8, .int (0 : Int32)), (0, .ref ax), (1, .int l1), (2, .int l2), (3, .int l3), (4, .int l4), (6, .int l6), (7, .int l7)]) hx hb dX5_fromShift_48 hl (by decide) rfl (fun ls hl => ?_)
                have L50_6 : ∀ (n : Nat) (l1 : Int32) (l2 : Int32) (l3 : Int32) (l4 : Int32) (l5 : Int32) (l6 : Int32) (l7 : Int32) (l8 : Int32) (l9 : Int32) (rs : (Int32 × Int32 × Int32 × Int32)) (H : Heap) (locs : List Loc) (ls : Array Slot), fX5_fromShift_L50 n l1 l2 l4 l5 l7 l8 l9 vxn fxi = some rs → lv_has ls 10 [(0, .ref ax), (1, .int l1), (2, .int l2), (3, .int l3), (4, .int l4), (5, .int l5), (6, .int l6), (7, .int l7), (8, .int l8), (9, .int l9)] → va_P (dC, dI) vwCl [(ax, .inr (5, [.int vxn, .ref axr, .ref axb, .ref axj, .int vxk, .ref axi, .ref axu, .long vxA, .long vxB, .long vxC, .long vxE])), (axi, .inl (cy, 8, .inl fxi))] H → va_D A [(ax, .inr (5, [.int vxn, .ref axr, .ref axb, .ref axj, .int vxk, .ref axi, .ref axu, .long vxA, .long vxB, .long vxC, .long vxE])), (axi, .inl (cy, 8, .inl fxi))] → va_S A s.heap H locs → (∀ (H : Heap) (locs : List Loc) (ls : Array Slot), lv_has ls 10 [(0, .ref ax), (1, .int l1), (2, .int rs.1), (3, .int l3), (4, .int l4), (5, .int rs.2.1), (6, .int l6), (7, .int l7), (8, .int rs.2.2.1), (9, .int rs.2.2.2)] → va_P (dC, dI) vwCl [(ax, .inr (5, [.int vxn, .ref axr, .ref axb, .ref axj, .int vxk, .ref axi, .ref axu, .long vxA, .long vxB, .long vxC, .long vxE])), (axi, .inl (cy, 8, .inl fxi))] H → va_D A [(ax, .inr (5, [.int vxn, .ref axr, .ref axb, .ref axj, .int vxk, .ref axi, .ref axu, .long vxA, .long vxB, .long vxC, .long vxE])), (axi, .inl (cy, 8, .inl fxi))] → va_S A s.heap H locs → W p l e (headSpec wsX5_fromShift ({ frames := 0, cells := 0, slots := 0, locals := 0 })).room s m (([.ref ax, .int p0] : List Value).toArray) below meth c H locs 0 0 (MQ below (va_Qi (fun (r : Int32) (_ : Unit) => r = res) (QW (dC, dI) cy A [(ax, .inr (5, [.int vxn, .ref axr, .ref axb, .ref axj, .int vxk, .ref axi, .ref axu, .long vxA, .long vxB, .long vxC, .long vxE])), (axi, .inl (cy, 8, .inl fxi))]) A) (([.ref ax, .int p0] : List Value).toArray) s 0 0 A) (F0 m 108 ls [])) → W p l e (headSpec wsX5_fromShift ({ frames := 0, cells := 0, slots := 0, locals := 0 })).room s m (([.ref ax, .int p0] : List Value).toArray) below meth c H locs 0 0 (MQ below (va_Qi (fun (r : Int32) (_ : Unit) => r = res) (QW (dC, dI) cy A [(ax, .inr (5, [.int vxn, .ref axr, .ref axb, .ref axj, .int vxk, .ref axi, .ref axu, .long vxA, .long vxB, .long vxC, .long vxE])), (axi, .inl (cy, 8, .inl fxi))]) A) (([.ref ax, .int p0] : List Value).toArray) s 0 0 A) (F0 m 50 ls []) := by
                  intro n
                  induction n with
                  | zero =>
                    intro l1 l2 l3 l4 l5 l6 l7 l8 l9 rs H locs ls h
                    rw [fX5_fromShift_L50_0] at h
                    cases h
                  | succ n ih =>
                    intro l1 l2 l3 l4 l5 l6 l7 l8 l9 rs H locs ls h hl hP hD hS K
                    rw [fX5_fromShift_L50_s] at h
                    refine lv_iload hx hb dX5_fromShift_50 (lv_at hl 5 rfl) ?_
                    refine lv_if_eq (tgt := 62) hx hb dX5_fromShift_52 (by decide) (fun c6 => ?_) (fun c6 => ?_)
                    · rw [if_pos c6] at h
                      refine lv_iload hx hb dX5_fromShift_62 (lv_at hl 8 rfl) ?_
                      refine lv_aload_n hx hb dX5_fromShift_64 rfl (lv_at hl 0 rfl) ?_
                      refine va_get (D := (dC, dI)) (ci := 5) (v := .ref axi) (C := RX5) (T := TX5) (N := 11) hx hb hts hin_X5 hown hK hP 0 rfl rfl 5 (by decide) (hf_26) (fun _ h9 => h9) rfl dX5_fromShift_65 ?_
                      refine lv_iload hx hb dX5_fromShift_68 (lv_at hl 9 rfl) ?_
                      obtain ⟨hi, h⟩ := gin_some h
                      refine va_iald hx hb hK hP 1 0 rfl rfl hi dX5_fromShift_70 ?_
                      refine lv_iload hx hb dX5_fromShift_71 (lv_at hl 7 rfl) ?_
                      obtain ⟨q1, hq1, h⟩ := bd_some h
                      have Jq1 : ∀ (H : Heap) (locs : List Loc) (ls : Array Slot), lv_has ls 10 [(0, .ref ax), (1, .int l1), (2, .int l2), (3, .int l3), (4, .int l4), (5, .int l5), (6, .int l6), (7, .int l7), (8, .int l8), (9, .int l9)] → va_P (dC, dI) vwCl [(ax, .inr (5, [.int vxn, .ref axr, .ref axb, .ref axj, .int vxk, .ref axi, .ref axu, .long vxA, .long vxB, .long vxC, .long vxE])), (axi, .inl (cy, 8, .inl fxi))] H → va_D A [(ax, .inr (5, [.int vxn, .ref axr, .ref axb, .ref axj, .int vxk, .ref axi, .ref axu, .long vxA, .long vxB, .long vxC, .long vxE])), (axi, .inl (cy, 8, .inl fxi))] → va_S A s.heap H locs → W p l e (headSpec wsX5_fromShift ({ frames := 0, cells := 0, slots := 0, locals := 0 })).room s m (([.ref ax, .int p0] : List Value).toArray) below meth c H locs 0 0 (MQ below (va_Qi (fun (r : Int32) (_ : Unit) => r = res) (QW (dC, dI) cy A [(ax, .inr (5, [.int vxn, .ref axr, .ref axb, .ref axj, .int vxk, .ref axi, .ref axu, .long vxA, .long vxB, .long vxC, .long vxE])), (axi, .inl (cy, 8, .inl fxi))]) A) (([.ref ax, .int p0] : List Value).toArray) s 0 0 A) (F0 m 81 ls [.int q1, .int l8]) := by
                        intro H locs ls hl hP hD hS
                        refine lv_iadd hx hb dX5_fromShift_81 ?_
                        refine lv_istore (lv' := [(8, .int (l8 + q1)), (0, .ref ax), (1, .int l1), (2, .int l2), (3, .int l3), (4, .int l4), (5, .int l5), (6, .int l6), (7, .int l7), (9, .int l9)]) hx hb dX5_fromShift_82 hl (by decide) rfl (fun ls hl => ?_)
                        refine lv_iinc (v := l5 + (1 : Int32)) (lv' := [(5, .int (l5 + (1 : Int32))), (8, .int (l8 + q1)), (0, .ref ax), (1, .int l1), (2, .int l2), (3, .int l3), (4, .int l4), (6, .int l6), (7, .int l7), (9, .int l9)]) hx hb dX5_fromShift_84 hl (k := 6) rfl rfl (by decide) rfl (fun ls hl => ?_)
                        refine lv_iload_n hx hb dX5_fromShift_87 rfl (lv_at hl 4 rfl) ?_
                        refine lv_iconst (v := (1 : Int32)) hx hb dX5_fromShift_88 (by decide) ?_
                        refine lv_iload hx hb dX5_fromShift_89 (lv_at hl 9 rfl) ?_
                        refine lv_ishl hx hb dX5_fromShift_91 ?_
                        refine lv_ior hx hb dX5_fromShift_92 ?_
                        refine lv_istore_n (lv' := [(2, .int (l2 ||| ((1 : Int32) <<< (l9 &&& 31)))), (5, .int (l5 + (1 : Int32))), (8, .int (l8 + q1)), (0, .ref ax), (1, .int l1), (3, .int l3), (4, .int l4), (6, .int l6), (7, .int l7), (9, .int l9)]) hx hb dX5_fromShift_93 rfl hl (by decide) rfl (fun ls hl => ?_)
                        refine lv_iload hx hb dX5_fromShift_94 (lv_at hl 9 rfl) ?_
                        refine lv_iload_n hx hb dX5_fromShift_96 rfl (lv_at hl 4 rfl) ?_
                        refine lv_iadd hx hb dX5_fromShift_97 ?_
                        refine lv_aload_n hx hb dX5_fromShift_98 rfl (lv_at hl 3 rfl) ?_
                        refine va_get (D := (dC, dI)) (ci := 5) (v := .int vxn) (C := RX5) (T := TX5) (N := 11) hx hb hts hin_X5 hown hK hP 0 rfl rfl 0 (by decide) (hf_7) (fun _ h9 => h9) rfl dX5_fromShift_99 ?_
                        obtain ⟨hz, h⟩ := gnz_some h
                        refine lv_irem hx hb dX5_fromShift_102 hz ?_
                        refine lv_istore (lv' := [(9, .int ((l9 + l1) - (l9 + l1) / vxn * vxn)), (2, .int (l2 ||| ((1 : Int32) <<< (l9 &&& 31)))), (5, .int (l5 + (1 : Int32))), (8, .int (l8 + q1)), (0, .ref ax), (1, .int l1), (3, .int l3), (4, .int l4), (6, .int l6), (7, .int l7)]) hx hb dX5_fromShift_103 hl (by decide) rfl (fun ls hl => ?_)
                        refine lv_goto (tgt := 50) hx hb dX5_fromShift_105 (by decide) ?_
                        exact ih l1 (l2 ||| ((1 : Int32) <<< (l9 &&& 31))) l3 l4 (l5 + (1 : Int32)) l6 l7 (l8 + q1) ((l9 + l1) - (l9 + l1) / vxn * vxn) rs H locs ls h (lv_sub hl [4, 5, 1, 6, 7, 2, 8, 9, 3, 0] rfl) hP hD hS K
                      replace h := hq1
                      refine lv_icmp_ne (tgt := 80) hx hb dX5_fromShift_73 (by decide) (fun c2 => ?_) (fun c2 => ?_)
                      · rw [if_neg c2] at h
                        refine lv_iconst (v := (0 : Int32)) hx hb dX5_fromShift_80 (by decide) ?_
                        have h0 := Option.some.inj h
                        subst h0
                        exact Jq1 H locs ls (lv_sub hl [0, 1, 2, 3, 4, 5, 6, 7, 8, 9] rfl) hP hD hS
                      · rw [if_pos c2] at h
                        refine lv_iconst (v := (1 : Int32)) hx hb dX5_fromShift_76 (by decide) ?_
                        refine lv_goto (tgt := 81) hx hb dX5_fromShift_77 (by decide) ?_
                        have h0 := Option.some.inj h
                        subst h0
                        exact Jq1 H locs ls (lv_sub hl [0, 1, 2, 3, 4, 5, 6, 7, 8, 9] rfl) hP hD hS
                    · rw [if_neg c6] at h
                      refine lv_iload hx hb dX5_fromShift_55 (lv_at hl 9 rfl) ?_
                      refine lv_iload hx hb dX5_fromShift_57 (lv_at hl 4 rfl) ?_
                      refine lv_icmp_eq (tgt := 108) hx hb dX5_fromShift_59 (by decide) (fun c5 => ?_) (fun c5 => ?_)
                      · rw [if_pos c5] at h
                        have h0 := Option.some.inj h
                        subst h0
                        exact K H locs ls (lv_sub hl [0, 1, 2, 3, 4, 5, 6, 7, 8, 9] rfl) hP hD hS
                      · rw [if_neg c5] at h
                        refine lv_iload hx hb dX5_fromShift_62 (lv_at hl 8 rfl) ?_
                        refine lv_aload_n hx hb dX5_fromShift_64 rfl (lv_at hl 0 rfl) ?_
                        refine va_get (D := (dC, dI)) (ci := 5) (v := .ref axi) (C := RX5) (T := TX5) (N := 11) hx hb hts hin_X5 hown hK hP 0 rfl rfl 5 (by decide) (hf_26) (fun _ h9 => h9) rfl dX5_fromShift_65 ?_
                        refine lv_iload hx hb dX5_fromShift_68 (lv_at hl 9 rfl) ?_
                        obtain ⟨hi, h⟩ := gin_some h
                        refine va_iald hx hb hK hP 1 0 rfl rfl hi dX5_fromShift_70 ?_
                        refine lv_iload hx hb dX5_fromShift_71 (lv_at hl 7 rfl) ?_
                        obtain ⟨q3, hq3, h⟩ := bd_some h
                        have Jq3 : ∀ (H : Heap) (locs : List Loc) (ls : Array Slot), lv_has ls 10 [(0, .ref ax), (1, .int l1), (2, .int l2), (3, .int l3), (4, .int l4), (5, .int l5), (6, .int l6), (7, .int l7), (8, .int l8), (9, .int l9)] → va_P (dC, dI) vwCl [(ax, .inr (5, [.int vxn, .ref axr, .ref axb, .ref axj, .int vxk, .ref axi, .ref axu, .long vxA, .long vxB, .long vxC, .long vxE])), (axi, .inl (cy, 8, .inl fxi))] H → va_D A [(ax, .inr (5, [.int vxn, .ref axr, .ref axb, .ref axj, .int vxk, .ref axi, .ref axu, .long vxA, .long vxB, .long vxC, .long vxE])), (axi, .inl (cy, 8, .inl fxi))] → va_S A s.heap H locs → W p l e (headSpec wsX5_fromShift ({ frames := 0, cells := 0, slots := 0, locals := 0 })).room s m (([.ref ax, .int p0] : List Value).toArray) below meth c H locs 0 0 (MQ below (va_Qi (fun (r : Int32) (_ : Unit) => r = res) (QW (dC, dI) cy A [(ax, .inr (5, [.int vxn, .ref axr, .ref axb, .ref axj, .int vxk, .ref axi, .ref axu, .long vxA, .long vxB, .long vxC, .long vxE])), (axi, .inl (cy, 8, .inl fxi))]) A) (([.ref ax, .int p0] : List Value).toArray) s 0 0 A) (F0 m 81 ls [.int q3, .int l8]) := by
                          intro H locs ls hl hP hD hS
                          refine lv_iadd hx hb dX5_fromShift_81 ?_
                          refine lv_istore (lv' := [(8, .int (l8 + q3)), (0, .ref ax), (1, .int l1), (2, .int l2), (3, .int l3), (4, .int l4), (5, .int l5), (6, .int l6), (7, .int l7), (9, .int l9)]) hx hb dX5_fromShift_82 hl (by decide) rfl (fun ls hl => ?_)
                          refine lv_iinc (v := l5 + (1 : Int32)) (lv' := [(5, .int (l5 + (1 : Int32))), (8, .int (l8 + q3)), (0, .ref ax), (1, .int l1), (2, .int l2), (3, .int l3), (4, .int l4), (6, .int l6), (7, .int l7), (9, .int l9)]) hx hb dX5_fromShift_84 hl (k := 6) rfl rfl (by decide) rfl (fun ls hl => ?_)
                          refine lv_iload_n hx hb dX5_fromShift_87 rfl (lv_at hl 4 rfl) ?_
                          refine lv_iconst (v := (1 : Int32)) hx hb dX5_fromShift_88 (by decide) ?_
                          refine lv_iload hx hb dX5_fromShift_89 (lv_at hl 9 rfl) ?_
                          refine lv_ishl hx hb dX5_fromShift_91 ?_
                          refine lv_ior hx hb dX5_fromShift_92 ?_
                          refine lv_istore_n (lv' := [(2, .int (l2 ||| ((1 : Int32) <<< (l9 &&& 31)))), (5, .int (l5 + (1 : Int32))), (8, .int (l8 + q3)), (0, .ref ax), (1, .int l1), (3, .int l3), (4, .int l4), (6, .int l6), (7, .int l7), (9, .int l9)]) hx hb dX5_fromShift_93 rfl hl (by decide) rfl (fun ls hl => ?_)
                          refine lv_iload hx hb dX5_fromShift_94 (lv_at hl 9 rfl) ?_
                          refine lv_iload_n hx hb dX5_fromShift_96 rfl (lv_at hl 4 rfl) ?_
                          refine lv_iadd hx hb dX5_fromShift_97 ?_
                          refine lv_aload_n hx hb dX5_fromShift_98 rfl (lv_at hl 3 rfl) ?_
                          refine va_get (D := (dC, dI)) (ci := 5) (v := .int vxn) (C := RX5) (T := TX5) (N := 11) hx hb hts hin_X5 hown hK hP 0 rfl rfl 0 (by decide) (hf_7) (fun _ h9 => h9) rfl dX5_fromShift_99 ?_
                          obtain ⟨hz, h⟩ := gnz_some h
                          refine lv_irem hx hb dX5_fromShift_102 hz ?_
                          refine lv_istore (lv' := [(9, .int ((l9 + l1) - (l9 + l1) / vxn * vxn)), (2, .int (l2 ||| ((1 : Int32) <<< (l9 &&& 31)))), (5, .int (l5 + (1 : Int32))), (8, .int (l8 + q3)), (0, .ref ax), (1, .int l1), (3, .int l3), (4, .int l4), (6, .int l6), (7, .int l7)]) hx hb dX5_fromShift_103 hl (by decide) rfl (fun ls hl => ?_)
                          refine lv_goto (tgt := 50) hx hb dX5_fromShift_105 (by decide) ?_
                          exact ih l1 (l2 ||| ((1 : Int32) <<< (l9 &&& 31))) l3 l4 (l5 + (1 : Int32)) l6 l7 (l8 + q3) ((l9 + l1) - (l9 + l1) / vxn * vxn) rs H locs ls h (lv_sub hl [4, 5, 1, 6, 7, 2, 8, 9, 3, 0] rfl) hP hD hS K
                        replace h := hq3
                        refine lv_icmp_ne (tgt := 80) hx hb dX5_fromShift_73 (by decide) (fun c4 => ?_) (fun c4 => ?_)
                        · rw [if_neg c4] at h
                          refine lv_iconst (v := (0 : Int32)) hx hb dX5_fromShift_80 (by decide) ?_
                          have h0 := Option.some.inj h
                          subst h0
                          exact Jq3 H locs ls (lv_sub hl [0, 1, 2, 3, 4, 5, 6, 7, 8, 9] rfl) hP hD hS
                        · rw [if_pos c4] at h
                          refine lv_iconst (v := (1 : Int32)) hx hb dX5_fromShift_76 (by decide) ?_
                          refine lv_goto (tgt := 81) hx hb dX5_fromShift_77 (by decide) ?_
                          have h0 := Option.some.inj h
                          subst h0
                          exact Jq3 H locs ls (lv_sub hl [0, 1, 2, 3, 4, 5, 6, 7, 8, 9] rfl) hP hD hS
                obtain ⟨q8, hq8, h⟩ := bd_some h
                refine L50_6 FU l1 l2 l3 l4 (0 : Int32) l6 l7 (0 : Int32) l4 q8 H locs ls hq8 (lv_sub hl [3, 4, 5, 6, 7, 1, 8, 9, 2, 0] rfl) hP hD hS (fun H locs ls hl hP hD hS => ?_)
                refine lv_iload hx hb dX5_fromShift_108 (lv_at hl 8 rfl) ?_
                refine lv_iload hx hb dX5_fromShift_110 (lv_at hl 6 rfl) ?_
                refine lv_icmp_le (tgt := 120) hx hb dX5_fromShift_112 (by decide) (fun c9 => ?_) (fun c9 => ?_)
                · rw [if_pos c9] at h
                  refine lv_iload hx hb dX5_fromShift_120 (lv_at hl 6 rfl) ?_
                  refine lv_istore (lv' := [(6, .int l6), (0, .ref ax), (1, .int l1), (2, .int q8.1), (3, .int l3), (4, .int l4), (5, .int q8.2.1), (7, .int l7), (8, .int q8.2.2.1), (9, .int q8.2.2.2)]) hx hb dX5_fromShift_122 hl (by decide) rfl (fun ls hl => ?_)
                  refine lv_iinc (v := l7 + (1 : Int32)) (lv' := [(7, .int (l7 + (1 : Int32))), (6, .int l6), (0, .ref ax), (1, .int l1), (2, .int q8.1), (3, .int l3), (4, .int l4), (5, .int q8.2.1), (8, .int q8.2.2.1), (9, .int q8.2.2.2)]) hx hb dX5_fromShift_124 hl (k := 7) rfl rfl (by decide) rfl (fun ls hl => ?_)
                  refine lv_goto (tgt := 34) hx hb dX5_fromShift_127 (by decide) ?_
                  exact ih l1 q8.1 l3 l4 q8.2.1 l6 (l7 + (1 : Int32)) rs H locs ls h (lv_sub hl [2, 3, 4, 5, 6, 7, 1, 0] rfl) hP hD hS K
                · rw [if_neg c9] at h
                  refine lv_iload hx hb dX5_fromShift_115 (lv_at hl 8 rfl) ?_
                  refine lv_goto (tgt := 122) hx hb dX5_fromShift_117 (by decide) ?_
                  refine lv_istore (lv' := [(6, .int q8.2.2.1), (0, .ref ax), (1, .int l1), (2, .int q8.1), (3, .int l3), (4, .int l4), (5, .int q8.2.1), (7, .int l7), (8, .int q8.2.2.1), (9, .int q8.2.2.2)]) hx hb dX5_fromShift_122 hl (by decide) rfl (fun ls hl => ?_)
                  refine lv_iinc (v := l7 + (1 : Int32)) (lv' := [(7, .int (l7 + (1 : Int32))), (6, .int q8.2.2.1), (0, .ref ax), (1, .int l1), (2, .int q8.1), (3, .int l3), (4, .int l4), (5, .int q8.2.1), (8, .int q8.2.2.1), (9, .int q8.2.2.2)]) hx hb dX5_fromShift_124 hl (k := 7) rfl rfl (by decide) rfl (fun ls hl => ?_)
                  refine lv_goto (tgt := 34) hx hb dX5_fromShift_127 (by decide) ?_
                  exact ih l1 q8.1 l3 l4 q8.2.1 q8.2.2.1 (l7 + (1 : Int32)) rs H locs ls h (lv_sub hl [2, 3, 4, 5, 6, 7, 1, 0] rfl) hP hD hS K
          obtain ⟨q12, hq12, h⟩ := bd_some h
          refine L34_10 FU l1 l2 l3 l4 (0 : Int32) (0 : Int32) (0 : Int32) q12 H locs ls hq12 (lv_sub hl [3, 4, 5, 6, 7, 2, 1, 0] rfl) hP hD hS (fun H locs ls hl hP hD hS => ?_)
          refine lv_iload_n hx hb dX5_fromShift_130 rfl (lv_at hl 3 rfl) ?_
          refine lv_iload hx hb dX5_fromShift_131 (lv_at hl 5 rfl) ?_
          refine lv_iload hx hb dX5_fromShift_133 (lv_at hl 6 rfl) ?_
          refine lv_isub hx hb dX5_fromShift_135 ?_
          refine lv_iadd hx hb dX5_fromShift_136 ?_
          refine lv_istore_n (lv' := [(3, .int (l3 + (q12.2.1 - q12.2.2.1))), (0, .ref ax), (1, .int l1), (2, .int q12.1), (4, .int l4), (5, .int q12.2.1), (6, .int q12.2.2.1), (7, .int q12.2.2.2)]) hx hb dX5_fromShift_137 rfl hl (by decide) rfl (fun ls hl => ?_)
          refine lv_iinc (v := l4 + (1 : Int32)) (lv' := [(4, .int (l4 + (1 : Int32))), (3, .int (l3 + (q12.2.1 - q12.2.2.1))), (0, .ref ax), (1, .int l1), (2, .int q12.1), (5, .int q12.2.1), (6, .int q12.2.2.1), (7, .int q12.2.2.2)]) hx hb dX5_fromShift_138 hl (k := 4) rfl rfl (by decide) rfl (fun ls hl => ?_)
          refine lv_goto (tgt := 7) hx hb dX5_fromShift_141 (by decide) ?_
          exact ih l1 q12.1 (l3 + (q12.2.1 - q12.2.2.1)) (l4 + (1 : Int32)) rs H locs ls h (lv_sub hl [2, 3, 4, 1, 0] rfl) hP hD hS K
  obtain ⟨q16, hq16, h⟩ := bd_some h
  refine L7_14 FU p0 (0 : Int32) (0 : Int32) (0 : Int32) q16 H locs ls hq16 (lv_sub hl [3, 4, 2, 1, 0] rfl) hP hD hS (fun H locs ls hl hP hD hS => ?_)
  refine lv_iload_n hx hb dX5_fromShift_144 rfl (lv_at hl 3 rfl) ?_
  have h0 := Option.some.inj h
  subst h0
  exact W.iret hx hb hr (fun t ht hW => ⟨⟨_, (), rfl, rfl, QW_mk hP hK hD ht hW⟩, hS.F ht⟩) hS.2.2 dX5_fromShift_145

noncomputable def fX5_fromRound_L7 (n : Nat) (l1 : Int32) (l2 : Int32) (vxn : Int32) (fxi : Nat → Int32) : Option (Int32 × Int32) := match n with
  | 0 => none
  | n + 1 => if vxn ≤ l2 then (some (l1, l2)) else (bd (fX5_fromShift vxn fxi l2) fun r1 => if l1 ≤ r1 then (fX5_fromRound_L7 n l1 (l2 + (1 : Int32)) vxn fxi) else (fX5_fromRound_L7 n r1 (l2 + (1 : Int32)) vxn fxi))
theorem fX5_fromRound_L7_0 (l1 : Int32) (l2 : Int32) (vxn : Int32) (fxi : Nat → Int32) : fX5_fromRound_L7 0 l1 l2 vxn fxi = none := rfl
theorem fX5_fromRound_L7_s (n : Nat) (l1 : Int32) (l2 : Int32) (vxn : Int32) (fxi : Nat → Int32) : fX5_fromRound_L7 (n + 1) l1 l2 vxn fxi = if vxn ≤ l2 then (some (l1, l2)) else (bd (fX5_fromShift vxn fxi l2) fun r1 => if l1 ≤ r1 then (fX5_fromRound_L7 n l1 (l2 + (1 : Int32)) vxn fxi) else (fX5_fromRound_L7 n r1 (l2 + (1 : Int32)) vxn fxi)) := rfl
noncomputable def fX5_fromRound (vxn : Int32) (fxi : Nat → Int32)  : Option (Int32) := bd (fX5_fromRound_L7 FU vxn (1 : Int32) vxn fxi) fun q5 => some q5.1
set_option maxHeartbeats 4000000 in
set_option maxRecDepth 100000 in
theorem c_X5_fromRound (l : Launch) (dC : Nat → ClassId) (dI : Nat → Nat → Nat) (cy : ClassId) (ax axr axb axj axi axu : Nat) (sz : Nat) (vxn : Int32) (vxk : Int32) (vxA : Int64) (vxB : Int64) (vxC : Int64) (vxE : Int64) (fxi : Nat → Int32)  (res : Int32) (h : fX5_fromRound vxn fxi = some res) : Met l yX5_fromRound wsX5_fromRound ({ frames := 1, cells := 0, slots := 0, locals := 29 }) (va_Pc [.ref ax] (PW (dC, dI) cy sz [(ax, .inr (5, [.int vxn, .ref axr, .ref axb, .ref axj, .int vxk, .ref axi, .ref axu, .long vxA, .long vxB, .long vxC, .long vxE])), (axi, .inl (cy, 8, .inl fxi))])) (va_Qi (fun (r : Int32) (_ : Unit) => r = res) (QW (dC, dI) cy (va_A [(ax, .inr (5, [.int vxn, .ref axr, .ref axb, .ref axj, .int vxk, .ref axi, .ref axu, .long vxA, .long vxB, .long vxC, .long vxE])), (axi, .inl (cy, 8, .inl fxi))] sz) [(ax, .inr (5, [.int vxn, .ref axr, .ref axb, .ref axj, .int vxk, .ref axi, .ref axu, .long vxA, .long vxB, .long vxC, .long vxE])), (axi, .inl (cy, 8, .inl fxi))]) (va_A [(ax, .inr (5, [.int vxn, .ref axr, .ref axb, .ref axj, .int vxk, .ref axi, .ref axu, .long vxA, .long vxB, .long vxC, .long vxE])), (axi, .inl (cy, 8, .inl fxi))] sz)) 0 0 (va_A [(ax, .inr (5, [.int vxn, .ref axr, .ref axb, .ref axj, .int vxk, .ref axi, .ref axu, .long vxA, .long vxB, .long vxC, .long vxE])), (axi, .inl (cy, 8, .inl fxi))] sz) := by
  refine Met.ofW (cc := cX5_fromRound) (maxL := 4) (ret := (some .int)) (by decide) rfl ?_
  intro p e s m args below meth c s₁ B hml hv
  obtain ⟨rfl, hsz, hP, hK, hD0, hN⟩ := hv
  have hx := B.exec
  have hb := B.bytes
  have hr := B.returns
  have hts := atoms_spec (ws := wsX5_fromRound) B.pre
  have hown : s.vm.findClass RX5 = some m.cls := findClass_of_methodNamed B.named
  have hlocks := B.notSynchronized
  subst hsz
  have hD := hD0.self (sz := s.heap.size)
  clear hD0
  generalize hAe : va_A [(ax, .inr (5, [.int vxn, .ref axr, .ref axb, .ref axj, .int vxk, .ref axi, .ref axu, .long vxA, .long vxB, .long vxC, .long vxE])), (axi, .inl (cy, 8, .inl fxi))] s.heap.size = A at hD ⊢
  have hA : ∀ q : Nat, s.heap.size ≤ q → A q := fun q h => by rw [← hAe]; exact Or.inr h
  have hS : va_S A s.heap s.heap [] := va_S.rf
  have hl := lv_entry ([.ref ax]) (n := 4) (Nat.le_of_ble_eq_true rfl)
  rw [lg_entry_eq]
  generalize (lg_sl ([.ref ax]) ++ List.replicate (4 - (lg_sl ([.ref ax])).length) Slot.unset).toArray = ls at hl ⊢
  replace hl : lv_has ls 4 [(0, .ref ax)] := hl
  replace hP : va_P (dC, dI) vwCl [(ax, .inr (5, [.int vxn, .ref axr, .ref axb, .ref axj, .int vxk, .ref axi, .ref axu, .long vxA, .long vxB, .long vxC, .long vxE])), (axi, .inl (cy, 8, .inl fxi))] s.heap := hP
  obtain ⟨locs, hlocs⟩ : ∃ lc : List Loc, lc = [] := ⟨_, rfl⟩
  rw [← hlocs] at hS ⊢
  obtain ⟨H, hH⟩ : ∃ H : Heap, H = s.heap := ⟨_, rfl⟩
  have hP2 := hP; rw [← hH] at hP2
  have hS2 : va_S A s.heap H locs := by rw [hH]; exact hS
  suffices hgo : W p l e (headSpec wsX5_fromRound ({ frames := 1, cells := 0, slots := 0, locals := 29 })).room s m (([.ref ax] : List Value).toArray) below meth c H locs 0 0 (MQ below (va_Qi (fun (r : Int32) (_ : Unit) => r = res) (QW (dC, dI) cy A [(ax, .inr (5, [.int vxn, .ref axr, .ref axb, .ref axj, .int vxk, .ref axi, .ref axu, .long vxA, .long vxB, .long vxC, .long vxE])), (axi, .inl (cy, 8, .inl fxi))]) A) (([.ref ax] : List Value).toArray) s 0 0 A) (F0 m 0 ls []) by rw [hH] at hgo; exact hgo
  replace hP := hP2
  replace hS := hS2
  clear hP2 hS2
  have hin_X5 : ∀ w ∈ wsX50, w ∈ wsX5_fromRound := by decide +kernel
  have hf_7 := hts (.fieldLink RX5 7 "FewLooksModel" "n" "I") (by decide +kernel)
  unfold fX5_fromRound at h
  refine lv_aload_n hx hb dX5_fromRound_0 rfl (lv_at hl 0 rfl) ?_
  refine va_get (D := (dC, dI)) (ci := 5) (v := .int vxn) (C := RX5) (T := TX5) (N := 11) hx hb hts hin_X5 hown hK hP 0 rfl rfl 0 (by decide) (hf_7) (fun _ h9 => h9) rfl dX5_fromRound_1 ?_
  refine lv_istore_n (lv' := [(1, .int vxn), (0, .ref ax)]) hx hb dX5_fromRound_4 rfl hl (by decide) rfl (fun ls hl => ?_)
  refine lv_iconst (v := (1 : Int32)) hx hb dX5_fromRound_5 (by decide) ?_
  refine lv_istore_n (lv' := [(2, .int (1 : Int32)), (1, .int vxn), (0, .ref ax)]) hx hb dX5_fromRound_6 rfl hl (by decide) rfl (fun ls hl => ?_)
  have L7_3 : ∀ (n : Nat) (l1 : Int32) (l2 : Int32) (rs : (Int32 × Int32)) (H : Heap) (locs : List Loc) (ls : Array Slot), fX5_fromRound_L7 n l1 l2 vxn fxi = some rs → lv_has ls 4 [(0, .ref ax), (1, .int l1), (2, .int l2)] → va_P (dC, dI) vwCl [(ax, .inr (5, [.int vxn, .ref axr, .ref axb, .ref axj, .int vxk, .ref axi, .ref axu, .long vxA, .long vxB, .long vxC, .long vxE])), (axi, .inl (cy, 8, .inl fxi))] H → va_D A [(ax, .inr (5, [.int vxn, .ref axr, .ref axb, .ref axj, .int vxk, .ref axi, .ref axu, .long vxA, .long vxB, .long vxC, .long vxE])), (axi, .inl (cy, 8, .inl fxi))] → va_S A s.heap H locs → (∀ (H : Heap) (locs : List Loc) (ls : Array Slot), lv_has ls 4 [(0, .ref ax), (1, .int rs.1), (2, .int rs.2)] → va_P (dC, dI) vwCl [(ax, .inr (5, [.int vxn, .ref axr, .ref axb, .ref axj, .int vxk, .ref axi, .ref axu, .long vxA, .long vxB, .long vxC, .long vxE])), (axi, .inl (cy, 8, .inl fxi))] H → va_D A [(ax, .inr (5, [.int vxn, .ref axr, .ref axb, .ref axj, .int vxk, .ref axi, .ref axu, .long vxA, .long vxB, .long vxC, .long vxE])), (axi, .inl (cy, 8, .inl fxi))] → va_S A s.heap H locs → W p l e (headSpec wsX5_fromRound ({ frames := 1, cells := 0, slots := 0, locals := 29 })).room s m (([.ref ax] : List Value).toArray) below meth c H locs 0 0 (MQ below (va_Qi (fun (r : Int32) (_ : Unit) => r = res) (QW (dC, dI) cy A [(ax, .inr (5, [.int vxn, .ref axr, .ref axb, .ref axj, .int vxk, .ref axi, .ref axu, .long vxA, .long vxB, .long vxC, .long vxE])), (axi, .inl (cy, 8, .inl fxi))]) A) (([.ref ax] : List Value).toArray) s 0 0 A) (F0 m 38 ls [])) → W p l e (headSpec wsX5_fromRound ({ frames := 1, cells := 0, slots := 0, locals := 29 })).room s m (([.ref ax] : List Value).toArray) below meth c H locs 0 0 (MQ below (va_Qi (fun (r : Int32) (_ : Unit) => r = res) (QW (dC, dI) cy A [(ax, .inr (5, [.int vxn, .ref axr, .ref axb, .ref axj, .int vxk, .ref axi, .ref axu, .long vxA, .long vxB, .long vxC, .long vxE])), (axi, .inl (cy, 8, .inl fxi))]) A) (([.ref ax] : List Value).toArray) s 0 0 A) (F0 m 7 ls []) := by
    intro n
    induction n with
    | zero =>
      intro l1 l2 rs H locs ls h
      rw [fX5_fromRound_L7_0] at h
      cases h
    | succ n ih =>
      intro l1 l2 rs H locs ls h hl hP hD hS K
      rw [fX5_fromRound_L7_s] at h
      refine lv_iload_n hx hb dX5_fromRound_7 rfl (lv_at hl 2 rfl) ?_
      refine lv_aload_n hx hb dX5_fromRound_8 rfl (lv_at hl 0 rfl) ?_
      refine va_get (D := (dC, dI)) (ci := 5) (v := .int vxn) (C := RX5) (T := TX5) (N := 11) hx hb hts hin_X5 hown hK hP 0 rfl rfl 0 (by decide) (hf_7) (fun _ h9 => h9) rfl dX5_fromRound_9 ?_
      refine lv_icmp_ge (tgt := 38) hx hb dX5_fromRound_12 (by decide) (fun c3 => ?_) (fun c3 => ?_)
      · rw [if_pos c3] at h
        have h0 := Option.some.inj h
        subst h0
        exact K H locs ls (lv_sub hl [0, 1, 2] rfl) hP hD hS
      · rw [if_neg c3] at h
        refine lv_aload_n hx hb dX5_fromRound_15 rfl (lv_at hl 0 rfl) ?_
        refine lv_iload_n hx hb dX5_fromRound_16 rfl (lv_at hl 2 rfl) ?_
        obtain ⟨r1, hr1, h⟩ := bd_some h
        have hFc := va_free (wc := [(ax, .inr (5, [.int vxn, .ref axr, .ref axb, .ref axj, .int vxk, .ref axi, .ref axu, .long vxA, .long vxB, .long vxC, .long vxE])), (axi, .inl (cy, 8, .inl fxi))]) hD hS hA [0, 1] rfl
        refine va_calli (va_runV (As := [.int l2]) (rest := []) ⟨hx, hb, hml, hown, hts⟩ (c_X5_fromShift l dC dI cy ax axr axb axj axi axu H.size vxn vxk vxA vxB vxC vxE fxi l2 r1 hr1) (cwV 1 hts gX5_fromRound_X5_fromShift rfl rfl rfl (by decide +kernel) ⟨Nat.le_of_ble_eq_true rfl, Nat.le_of_ble_eq_true rfl⟩) ⟨PW_fb, va_recv hK hP (ci := 5) (q0 := 0) rfl rfl, PW_pre (hP.sub (ws' := [(ax, .inr (5, [.int vxn, .ref axr, .ref axb, .ref axj, .int vxk, .ref axi, .ref axu, .long vxA, .long vxB, .long vxC, .long vxE])), (axi, .inl (cy, 8, .inl fxi))]) [0, 1] rfl) hK (hD.sub [0, 1] (by decide) rfl) hN⟩ rfl rfl hl.1 rfl (lv_room (Nat.le_of_ble_eq_true rfl)) dX5_fromRound_17 ⟨Nat.zero_le _, Nat.zero_le _⟩) hS (fun q _ h => hFc q h) hFc (fun rz u t H locs ht hvm hw hB hz1 hk1 hS => ?_)
        obtain ⟨hP, hD⟩ := jn (wr := []) (w1 := [(ax, .inr (5, [.int vxn, .ref axr, .ref axb, .ref axj, .int vxk, .ref axi, .ref axu, .long vxA, .long vxB, .long vxC, .long vxE])), (axi, .inl (cy, 8, .inl fxi))]) (ws' := [(ax, .inr (5, [.int vxn, .ref axr, .ref axb, .ref axj, .int vxk, .ref axi, .ref axu, .long vxA, .long vxB, .long vxC, .long vxE])), (axi, .inl (cy, 8, .inl fxi))]) hP hD [0, 1] [] rfl rfl (by decide) (by decide) hk1 hFc hB ht [0, 1] rfl (by decide) rfl
        replace hw := hw.symm
        subst hw
        clear hFc hB hk1 hz1 hvm
        refine lv_istore_n (lv' := [(3, .int r1), (0, .ref ax), (1, .int l1), (2, .int l2)]) hx hb dX5_fromRound_20 rfl hl (by decide) rfl (fun ls hl => ?_)
        refine lv_iload_n hx hb dX5_fromRound_21 rfl (lv_at hl 0 rfl) ?_
        refine lv_iload_n hx hb dX5_fromRound_22 rfl (lv_at hl 2 rfl) ?_
        refine lv_icmp_ge (tgt := 30) hx hb dX5_fromRound_23 (by decide) (fun c2 => ?_) (fun c2 => ?_)
        · rw [if_pos c2] at h
          refine lv_iload_n hx hb dX5_fromRound_30 rfl (lv_at hl 2 rfl) ?_
          refine lv_istore_n (lv' := [(1, .int l1), (3, .int r1), (0, .ref ax), (2, .int l2)]) hx hb dX5_fromRound_31 rfl hl (by decide) rfl (fun ls hl => ?_)
          refine lv_iinc (v := l2 + (1 : Int32)) (lv' := [(2, .int (l2 + (1 : Int32))), (1, .int l1), (3, .int r1), (0, .ref ax)]) hx hb dX5_fromRound_32 hl (k := 3) rfl rfl (by decide) rfl (fun ls hl => ?_)
          refine lv_goto (tgt := 7) hx hb dX5_fromRound_35 (by decide) ?_
          exact ih l1 (l2 + (1 : Int32)) rs H locs ls h (lv_sub hl [3, 1, 0] rfl) hP hD hS K
        · rw [if_neg c2] at h
          refine lv_iload_n hx hb dX5_fromRound_26 rfl (lv_at hl 0 rfl) ?_
          refine lv_goto (tgt := 31) hx hb dX5_fromRound_27 (by decide) ?_
          refine lv_istore_n (lv' := [(1, .int r1), (3, .int r1), (0, .ref ax), (2, .int l2)]) hx hb dX5_fromRound_31 rfl hl (by decide) rfl (fun ls hl => ?_)
          refine lv_iinc (v := l2 + (1 : Int32)) (lv' := [(2, .int (l2 + (1 : Int32))), (1, .int r1), (3, .int r1), (0, .ref ax)]) hx hb dX5_fromRound_32 hl (k := 3) rfl rfl (by decide) rfl (fun ls hl => ?_)
          refine lv_goto (tgt := 7) hx hb dX5_fromRound_35 (by decide) ?_
          exact ih r1 (l2 + (1 : Int32)) rs H locs ls h (lv_sub hl [3, 1, 0] rfl) hP hD hS K
  obtain ⟨q5, hq5, h⟩ := bd_some h
  refine L7_3 FU vxn (1 : Int32) q5 H locs ls hq5 (lv_sub hl [2, 1, 0] rfl) hP hD hS (fun H locs ls hl hP hD hS => ?_)
  refine lv_iload_n hx hb dX5_fromRound_38 rfl (lv_at hl 1 rfl) ?_
  have h0 := Option.some.inj h
  subst h0
  exact W.iret hx hb hr (fun t ht hW => ⟨⟨_, (), rfl, rfl, QW_mk hP hK hD ht hW⟩, hS.F ht⟩) hS.2.2 dX5_fromRound_39

noncomputable def fX5_fromKind (vxn : Int32) (fxi : Nat → Int32) (fxu : Nat → Int32) (p0 : Int32) : Option (Int32 × (Nat → Int32)) := if p0 = 0 then (bd (fX5_fromRising vxn fxi fxu) fun r6 => some (r6.1, r6.2)) else (if p0 = (1 : Int32) then (bd (fX5_fromMirrored vxn fxi) fun r4 => some (r4, fxu)) else (if p0 = (2 : Int32) then (bd (fX5_fromEven vxn fxi) fun r2 => some (r2, fxu)) else (bd (fX5_fromRound vxn fxi) fun r1 => some (r1, fxu))))
set_option maxHeartbeats 4000000 in
set_option maxRecDepth 100000 in
theorem c_X5_fromKind (l : Launch) (dC : Nat → ClassId) (dI : Nat → Nat → Nat) (cy : ClassId) (ax axr axb axj axi axu : Nat) (sz : Nat) (vxn : Int32) (vxk : Int32) (vxA : Int64) (vxB : Int64) (vxC : Int64) (vxE : Int64) (fxi : Nat → Int32) (fxu : Nat → Int32) (p0 : Int32) (res : Int32 × (Nat → Int32)) (h : fX5_fromKind vxn fxi fxu p0 = some res) : Met l yX5_fromKind wsX5_fromKind ({ frames := 2, cells := 0, slots := 0, locals := 52 }) (va_Pc [.ref ax, .int p0] (PW (dC, dI) cy sz [(ax, .inr (5, [.int vxn, .ref axr, .ref axb, .ref axj, .int vxk, .ref axi, .ref axu, .long vxA, .long vxB, .long vxC, .long vxE])), (axi, .inl (cy, 8, .inl fxi)), (axu, .inl (cy, 8, .inl fxu))])) (va_Qi (fun (r : Int32) (_ : Unit) => r = res.1) (QW (dC, dI) cy (va_A [(ax, .inr (5, [.int vxn, .ref axr, .ref axb, .ref axj, .int vxk, .ref axi, .ref axu, .long vxA, .long vxB, .long vxC, .long vxE])), (axi, .inl (cy, 8, .inl fxi)), (axu, .inl (cy, 8, .inl fxu))] sz) [(ax, .inr (5, [.int vxn, .ref axr, .ref axb, .ref axj, .int vxk, .ref axi, .ref axu, .long vxA, .long vxB, .long vxC, .long vxE])), (axi, .inl (cy, 8, .inl fxi)), (axu, .inl (cy, 8, .inl res.2))]) (va_A [(ax, .inr (5, [.int vxn, .ref axr, .ref axb, .ref axj, .int vxk, .ref axi, .ref axu, .long vxA, .long vxB, .long vxC, .long vxE])), (axi, .inl (cy, 8, .inl fxi)), (axu, .inl (cy, 8, .inl fxu))] sz)) 0 0 (va_A [(ax, .inr (5, [.int vxn, .ref axr, .ref axb, .ref axj, .int vxk, .ref axi, .ref axu, .long vxA, .long vxB, .long vxC, .long vxE])), (axi, .inl (cy, 8, .inl fxi)), (axu, .inl (cy, 8, .inl fxu))] sz) := by
  refine Met.ofW (cc := cX5_fromKind) (maxL := 2) (ret := (some .int)) (by decide) rfl ?_
  intro p e s m args below meth c s₁ B hml hv
  obtain ⟨rfl, hsz, hP, hK, hD0, hN⟩ := hv
  have hx := B.exec
  have hb := B.bytes
  have hr := B.returns
  have hts := atoms_spec (ws := wsX5_fromKind) B.pre
  have hown : s.vm.findClass RX5 = some m.cls := findClass_of_methodNamed B.named
  have hlocks := B.notSynchronized
  subst hsz
  have hD := hD0.self (sz := s.heap.size)
  clear hD0
  generalize hAe : va_A [(ax, .inr (5, [.int vxn, .ref axr, .ref axb, .ref axj, .int vxk, .ref axi, .ref axu, .long vxA, .long vxB, .long vxC, .long vxE])), (axi, .inl (cy, 8, .inl fxi)), (axu, .inl (cy, 8, .inl fxu))] s.heap.size = A at hD ⊢
  have hA : ∀ q : Nat, s.heap.size ≤ q → A q := fun q h => by rw [← hAe]; exact Or.inr h
  have hS : va_S A s.heap s.heap [] := va_S.rf
  have hl := lv_entry ([.ref ax, .int p0]) (n := 2) (Nat.le_of_ble_eq_true rfl)
  rw [lg_entry_eq]
  generalize (lg_sl ([.ref ax, .int p0]) ++ List.replicate (2 - (lg_sl ([.ref ax, .int p0])).length) Slot.unset).toArray = ls at hl ⊢
  replace hl : lv_has ls 2 [(0, .ref ax), (1, .int p0)] := hl
  replace hP : va_P (dC, dI) vwCl [(ax, .inr (5, [.int vxn, .ref axr, .ref axb, .ref axj, .int vxk, .ref axi, .ref axu, .long vxA, .long vxB, .long vxC, .long vxE])), (axi, .inl (cy, 8, .inl fxi)), (axu, .inl (cy, 8, .inl fxu))] s.heap := hP
  obtain ⟨locs, hlocs⟩ : ∃ lc : List Loc, lc = [] := ⟨_, rfl⟩
  rw [← hlocs] at hS ⊢
  obtain ⟨H, hH⟩ : ∃ H : Heap, H = s.heap := ⟨_, rfl⟩
  have hP2 := hP; rw [← hH] at hP2
  have hS2 : va_S A s.heap H locs := by rw [hH]; exact hS
  suffices hgo : W p l e (headSpec wsX5_fromKind ({ frames := 2, cells := 0, slots := 0, locals := 52 })).room s m (([.ref ax, .int p0] : List Value).toArray) below meth c H locs 0 0 (MQ below (va_Qi (fun (r : Int32) (_ : Unit) => r = res.1) (QW (dC, dI) cy A [(ax, .inr (5, [.int vxn, .ref axr, .ref axb, .ref axj, .int vxk, .ref axi, .ref axu, .long vxA, .long vxB, .long vxC, .long vxE])), (axi, .inl (cy, 8, .inl fxi)), (axu, .inl (cy, 8, .inl res.2))]) A) (([.ref ax, .int p0] : List Value).toArray) s 0 0 A) (F0 m 0 ls []) by rw [hH] at hgo; exact hgo
  replace hP := hP2
  replace hS := hS2
  clear hP2 hS2
  unfold fX5_fromKind at h
  refine lv_iload_n hx hb dX5_fromKind_0 rfl (lv_at hl 1 rfl) ?_
  refine lv_if_ne (tgt := 11) hx hb dX5_fromKind_1 (by decide) (fun c7 => ?_) (fun c7 => ?_)
  · rw [if_neg c7] at h
    refine lv_iload_n hx hb dX5_fromKind_11 rfl (lv_at hl 1 rfl) ?_
    refine lv_iconst (v := (1 : Int32)) hx hb dX5_fromKind_12 (by decide) ?_
    refine lv_icmp_ne (tgt := 23) hx hb dX5_fromKind_13 (by decide) (fun c5 => ?_) (fun c5 => ?_)
    · rw [if_neg c5] at h
      refine lv_iload_n hx hb dX5_fromKind_23 rfl (lv_at hl 1 rfl) ?_
      refine lv_iconst (v := (2 : Int32)) hx hb dX5_fromKind_24 (by decide) ?_
      refine lv_icmp_ne (tgt := 35) hx hb dX5_fromKind_25 (by decide) (fun c3 => ?_) (fun c3 => ?_)
      · rw [if_neg c3] at h
        refine lv_aload_n hx hb dX5_fromKind_35 rfl (lv_at hl 0 rfl) ?_
        obtain ⟨r1, hr1, h⟩ := bd_some h
        have hFc := va_free (wc := [(ax, .inr (5, [.int vxn, .ref axr, .ref axb, .ref axj, .int vxk, .ref axi, .ref axu, .long vxA, .long vxB, .long vxC, .long vxE])), (axi, .inl (cy, 8, .inl fxi))]) hD hS hA [0, 1] rfl
        refine va_calli (va_runV (As := []) (rest := []) ⟨hx, hb, hml, hown, hts⟩ (c_X5_fromRound l dC dI cy ax axr axb axj axi axu H.size vxn vxk vxA vxB vxC vxE fxi  r1 hr1) (cwV 0 hts gX5_fromKind_X5_fromRound rfl rfl rfl (by decide +kernel) ⟨Nat.le_of_ble_eq_true rfl, Nat.le_of_ble_eq_true rfl⟩) ⟨PW_fb, va_recv hK hP (ci := 5) (q0 := 0) rfl rfl, PW_pre (hP.sub (ws' := [(ax, .inr (5, [.int vxn, .ref axr, .ref axb, .ref axj, .int vxk, .ref axi, .ref axu, .long vxA, .long vxB, .long vxC, .long vxE])), (axi, .inl (cy, 8, .inl fxi))]) [0, 1] rfl) hK (hD.sub [0, 1] (by decide) rfl) hN⟩ rfl rfl hl.1 rfl (lv_room (Nat.le_of_ble_eq_true rfl)) dX5_fromKind_36 ⟨Nat.zero_le _, Nat.zero_le _⟩) hS (fun q _ h => hFc q h) hFc (fun rz u t H locs ht hvm hw hB hz1 hk1 hS => ?_)
        obtain ⟨hP, hD⟩ := jn (wr := [(axu, .inl (cy, 8, .inl fxu))]) (w1 := [(ax, .inr (5, [.int vxn, .ref axr, .ref axb, .ref axj, .int vxk, .ref axi, .ref axu, .long vxA, .long vxB, .long vxC, .long vxE])), (axi, .inl (cy, 8, .inl fxi))]) (ws' := [(ax, .inr (5, [.int vxn, .ref axr, .ref axb, .ref axj, .int vxk, .ref axi, .ref axu, .long vxA, .long vxB, .long vxC, .long vxE])), (axi, .inl (cy, 8, .inl fxi)), (axu, .inl (cy, 8, .inl fxu))]) hP hD [0, 1] [2] rfl rfl (by decide) (by decide) hk1 hFc hB ht [1, 2, 0] rfl (by decide) rfl
        replace hw := hw.symm
        subst hw
        clear hFc hB hk1 hz1 hvm
        have h0 := Option.some.inj h
        subst h0
        exact W.iret hx hb hr (fun t ht hW => ⟨⟨_, (), rfl, rfl, QW_mk hP hK hD ht hW⟩, hS.F ht⟩) hS.2.2 dX5_fromKind_39
      · rw [if_pos c3] at h
        refine lv_aload_n hx hb dX5_fromKind_28 rfl (lv_at hl 0 rfl) ?_
        obtain ⟨r2, hr2, h⟩ := bd_some h
        have hFc := va_free (wc := [(ax, .inr (5, [.int vxn, .ref axr, .ref axb, .ref axj, .int vxk, .ref axi, .ref axu, .long vxA, .long vxB, .long vxC, .long vxE])), (axi, .inl (cy, 8, .inl fxi))]) hD hS hA [0, 1] rfl
        refine va_calli (va_runV (As := []) (rest := []) ⟨hx, hb, hml, hown, hts⟩ (c_X5_fromEven l dC dI cy ax axr axb axj axi axu H.size vxn vxk vxA vxB vxC vxE fxi  r2 hr2) (cwV 0 hts gX5_fromKind_X5_fromEven rfl rfl rfl (by decide +kernel) ⟨Nat.le_of_ble_eq_true rfl, Nat.le_of_ble_eq_true rfl⟩) ⟨PW_fb, va_recv hK hP (ci := 5) (q0 := 0) rfl rfl, PW_pre (hP.sub (ws' := [(ax, .inr (5, [.int vxn, .ref axr, .ref axb, .ref axj, .int vxk, .ref axi, .ref axu, .long vxA, .long vxB, .long vxC, .long vxE])), (axi, .inl (cy, 8, .inl fxi))]) [0, 1] rfl) hK (hD.sub [0, 1] (by decide) rfl) hN⟩ rfl rfl hl.1 rfl (lv_room (Nat.le_of_ble_eq_true rfl)) dX5_fromKind_29 ⟨Nat.zero_le _, Nat.zero_le _⟩) hS (fun q _ h => hFc q h) hFc (fun rz u t H locs ht hvm hw hB hz1 hk1 hS => ?_)
        obtain ⟨hP, hD⟩ := jn (wr := [(axu, .inl (cy, 8, .inl fxu))]) (w1 := [(ax, .inr (5, [.int vxn, .ref axr, .ref axb, .ref axj, .int vxk, .ref axi, .ref axu, .long vxA, .long vxB, .long vxC, .long vxE])), (axi, .inl (cy, 8, .inl fxi))]) (ws' := [(ax, .inr (5, [.int vxn, .ref axr, .ref axb, .ref axj, .int vxk, .ref axi, .ref axu, .long vxA, .long vxB, .long vxC, .long vxE])), (axi, .inl (cy, 8, .inl fxi)), (axu, .inl (cy, 8, .inl fxu))]) hP hD [0, 1] [2] rfl rfl (by decide) (by decide) hk1 hFc hB ht [1, 2, 0] rfl (by decide) rfl
        replace hw := hw.symm
        subst hw
        clear hFc hB hk1 hz1 hvm
        refine lv_goto (tgt := 39) hx hb dX5_fromKind_32 (by decide) ?_
        have h0 := Option.some.inj h
        subst h0
        exact W.iret hx hb hr (fun t ht hW => ⟨⟨_, (), rfl, rfl, QW_mk hP hK hD ht hW⟩, hS.F ht⟩) hS.2.2 dX5_fromKind_39
    · rw [if_pos c5] at h
      refine lv_aload_n hx hb dX5_fromKind_16 rfl (lv_at hl 0 rfl) ?_
      obtain ⟨r4, hr4, h⟩ := bd_some h
      have hFc := va_free (wc := [(ax, .inr (5, [.int vxn, .ref axr, .ref axb, .ref axj, .int vxk, .ref axi, .ref axu, .long vxA, .long vxB, .long vxC, .long vxE])), (axi, .inl (cy, 8, .inl fxi))]) hD hS hA [0, 1] rfl
      refine va_calli (va_runV (As := []) (rest := []) ⟨hx, hb, hml, hown, hts⟩ (c_X5_fromMirrored l dC dI cy ax axr axb axj axi axu H.size vxn vxk vxA vxB vxC vxE fxi  r4 hr4) (cwV 0 hts gX5_fromKind_X5_fromMirrored rfl rfl rfl (by decide +kernel) ⟨Nat.le_of_ble_eq_true rfl, Nat.le_of_ble_eq_true rfl⟩) ⟨PW_fb, va_recv hK hP (ci := 5) (q0 := 0) rfl rfl, PW_pre (hP.sub (ws' := [(ax, .inr (5, [.int vxn, .ref axr, .ref axb, .ref axj, .int vxk, .ref axi, .ref axu, .long vxA, .long vxB, .long vxC, .long vxE])), (axi, .inl (cy, 8, .inl fxi))]) [0, 1] rfl) hK (hD.sub [0, 1] (by decide) rfl) hN⟩ rfl rfl hl.1 rfl (lv_room (Nat.le_of_ble_eq_true rfl)) dX5_fromKind_17 ⟨Nat.zero_le _, Nat.zero_le _⟩) hS (fun q _ h => hFc q h) hFc (fun rz u t H locs ht hvm hw hB hz1 hk1 hS => ?_)
      obtain ⟨hP, hD⟩ := jn (wr := [(axu, .inl (cy, 8, .inl fxu))]) (w1 := [(ax, .inr (5, [.int vxn, .ref axr, .ref axb, .ref axj, .int vxk, .ref axi, .ref axu, .long vxA, .long vxB, .long vxC, .long vxE])), (axi, .inl (cy, 8, .inl fxi))]) (ws' := [(ax, .inr (5, [.int vxn, .ref axr, .ref axb, .ref axj, .int vxk, .ref axi, .ref axu, .long vxA, .long vxB, .long vxC, .long vxE])), (axi, .inl (cy, 8, .inl fxi)), (axu, .inl (cy, 8, .inl fxu))]) hP hD [0, 1] [2] rfl rfl (by decide) (by decide) hk1 hFc hB ht [1, 2, 0] rfl (by decide) rfl
      replace hw := hw.symm
      subst hw
      clear hFc hB hk1 hz1 hvm
      refine lv_goto (tgt := 39) hx hb dX5_fromKind_20 (by decide) ?_
      have h0 := Option.some.inj h
      subst h0
      exact W.iret hx hb hr (fun t ht hW => ⟨⟨_, (), rfl, rfl, QW_mk hP hK hD ht hW⟩, hS.F ht⟩) hS.2.2 dX5_fromKind_39
  · rw [if_pos c7] at h
    refine lv_aload_n hx hb dX5_fromKind_4 rfl (lv_at hl 0 rfl) ?_
    obtain ⟨r6, hr6, h⟩ := bd_some h
    have hFc := va_free (wc := [(ax, .inr (5, [.int vxn, .ref axr, .ref axb, .ref axj, .int vxk, .ref axi, .ref axu, .long vxA, .long vxB, .long vxC, .long vxE])), (axi, .inl (cy, 8, .inl fxi)), (axu, .inl (cy, 8, .inl fxu))]) hD hS hA [0, 1, 2] rfl
    refine va_calli (va_runV (As := []) (rest := []) ⟨hx, hb, hml, hown, hts⟩ (c_X5_fromRising l dC dI cy ax axr axb axj axi axu H.size vxn vxk vxA vxB vxC vxE fxi fxu  r6 hr6) (cwV 0 hts gX5_fromKind_X5_fromRising rfl rfl rfl (by decide +kernel) ⟨Nat.le_of_ble_eq_true rfl, Nat.le_of_ble_eq_true rfl⟩) ⟨PW_fb, va_recv hK hP (ci := 5) (q0 := 0) rfl rfl, PW_pre (hP.sub (ws' := [(ax, .inr (5, [.int vxn, .ref axr, .ref axb, .ref axj, .int vxk, .ref axi, .ref axu, .long vxA, .long vxB, .long vxC, .long vxE])), (axi, .inl (cy, 8, .inl fxi)), (axu, .inl (cy, 8, .inl fxu))]) [0, 1, 2] rfl) hK (hD.sub [0, 1, 2] (by decide) rfl) hN⟩ rfl rfl hl.1 rfl (lv_room (Nat.le_of_ble_eq_true rfl)) dX5_fromKind_5 ⟨Nat.zero_le _, Nat.zero_le _⟩) hS (fun q _ h => hFc q h) hFc (fun rz u t H locs ht hvm hw hB hz1 hk1 hS => ?_)
    obtain ⟨hP, hD⟩ := jn (wr := []) (w1 := [(ax, .inr (5, [.int vxn, .ref axr, .ref axb, .ref axj, .int vxk, .ref axi, .ref axu, .long vxA, .long vxB, .long vxC, .long vxE])), (axi, .inl (cy, 8, .inl fxi)), (axu, .inl (cy, 8, .inl r6.2))]) (ws' := [(ax, .inr (5, [.int vxn, .ref axr, .ref axb, .ref axj, .int vxk, .ref axi, .ref axu, .long vxA, .long vxB, .long vxC, .long vxE])), (axi, .inl (cy, 8, .inl fxi)), (axu, .inl (cy, 8, .inl r6.2))]) hP hD [0, 1, 2] [] rfl rfl (by decide) (by decide) hk1 hFc hB ht [0, 1, 2] rfl (by decide) rfl
    replace hw := hw.symm
    subst hw
    clear hFc hB hk1 hz1 hvm
    refine lv_goto (tgt := 39) hx hb dX5_fromKind_8 (by decide) ?_
    have h0 := Option.some.inj h
    subst h0
    exact W.iret hx hb hr (fun t ht hW => ⟨⟨_, (), rfl, rfl, QW_mk hP hK hD ht hW⟩, hS.F ht⟩) hS.2.2 dX5_fromKind_39

noncomputable def fX5_rowDistance (vxn : Int32) (fxr : Nat → Int32) (fxi : Nat → Int32) (fxu : Nat → Int32) (p0 : Int32) : Option (Int32 × (Nat → Int32) × (Nat → Int32)) := bd (fX5_takeRow vxn fxr fxi) fun r1 => bd (fX5_fromKind vxn r1 fxu p0) fun r2 => some (r2.1, r1, r2.2)
set_option maxHeartbeats 4000000 in
set_option maxRecDepth 100000 in
theorem c_X5_rowDistance (l : Launch) (dC : Nat → ClassId) (dI : Nat → Nat → Nat) (cy : ClassId) (ax axr axb axj axi axu : Nat) (sz : Nat) (vxn : Int32) (vxk : Int32) (vxA : Int64) (vxB : Int64) (vxC : Int64) (vxE : Int64) (fxr : Nat → Int32) (fxi : Nat → Int32) (fxu : Nat → Int32) (p0 : Int32) (res : Int32 × (Nat → Int32) × (Nat → Int32)) (h : fX5_rowDistance vxn fxr fxi fxu p0 = some res) : Met l yX5_rowDistance wsX5_rowDistance ({ frames := 3, cells := 0, slots := 0, locals := 73 }) (va_Pc [.ref ax, .int p0] (PW (dC, dI) cy sz [(ax, .inr (5, [.int vxn, .ref axr, .ref axb, .ref axj, .int vxk, .ref axi, .ref axu, .long vxA, .long vxB, .long vxC, .long vxE])), (axr, .inl (cy, 8, .inl fxr)), (axi, .inl (cy, 8, .inl fxi)), (axu, .inl (cy, 8, .inl fxu))])) (va_Qi (fun (r : Int32) (_ : Unit) => r = res.1) (QW (dC, dI) cy (va_A [(ax, .inr (5, [.int vxn, .ref axr, .ref axb, .ref axj, .int vxk, .ref axi, .ref axu, .long vxA, .long vxB, .long vxC, .long vxE])), (axr, .inl (cy, 8, .inl fxr)), (axi, .inl (cy, 8, .inl fxi)), (axu, .inl (cy, 8, .inl fxu))] sz) [(ax, .inr (5, [.int vxn, .ref axr, .ref axb, .ref axj, .int vxk, .ref axi, .ref axu, .long vxA, .long vxB, .long vxC, .long vxE])), (axr, .inl (cy, 8, .inl fxr)), (axi, .inl (cy, 8, .inl res.2.1)), (axu, .inl (cy, 8, .inl res.2.2))]) (va_A [(ax, .inr (5, [.int vxn, .ref axr, .ref axb, .ref axj, .int vxk, .ref axi, .ref axu, .long vxA, .long vxB, .long vxC, .long vxE])), (axr, .inl (cy, 8, .inl fxr)), (axi, .inl (cy, 8, .inl fxi)), (axu, .inl (cy, 8, .inl fxu))] sz)) 0 0 (va_A [(ax, .inr (5, [.int vxn, .ref axr, .ref axb, .ref axj, .int vxk, .ref axi, .ref axu, .long vxA, .long vxB, .long vxC, .long vxE])), (axr, .inl (cy, 8, .inl fxr)), (axi, .inl (cy, 8, .inl fxi)), (axu, .inl (cy, 8, .inl fxu))] sz) := by
  refine Met.ofW (cc := cX5_rowDistance) (maxL := 2) (ret := (some .int)) (by decide) rfl ?_
  intro p e s m args below meth c s₁ B hml hv
  obtain ⟨rfl, hsz, hP, hK, hD0, hN⟩ := hv
  have hx := B.exec
  have hb := B.bytes
  have hr := B.returns
  have hts := atoms_spec (ws := wsX5_rowDistance) B.pre
  have hown : s.vm.findClass RX5 = some m.cls := findClass_of_methodNamed B.named
  have hlocks := B.notSynchronized
  subst hsz
  have hD := hD0.self (sz := s.heap.size)
  clear hD0
  generalize hAe : va_A [(ax, .inr (5, [.int vxn, .ref axr, .ref axb, .ref axj, .int vxk, .ref axi, .ref axu, .long vxA, .long vxB, .long vxC, .long vxE])), (axr, .inl (cy, 8, .inl fxr)), (axi, .inl (cy, 8, .inl fxi)), (axu, .inl (cy, 8, .inl fxu))] s.heap.size = A at hD ⊢
  have hA : ∀ q : Nat, s.heap.size ≤ q → A q := fun q h => by rw [← hAe]; exact Or.inr h
  have hS : va_S A s.heap s.heap [] := va_S.rf
  have hl := lv_entry ([.ref ax, .int p0]) (n := 2) (Nat.le_of_ble_eq_true rfl)
  rw [lg_entry_eq]
  generalize (lg_sl ([.ref ax, .int p0]) ++ List.replicate (2 - (lg_sl ([.ref ax, .int p0])).length) Slot.unset).toArray = ls at hl ⊢
  replace hl : lv_has ls 2 [(0, .ref ax), (1, .int p0)] := hl
  replace hP : va_P (dC, dI) vwCl [(ax, .inr (5, [.int vxn, .ref axr, .ref axb, .ref axj, .int vxk, .ref axi, .ref axu, .long vxA, .long vxB, .long vxC, .long vxE])), (axr, .inl (cy, 8, .inl fxr)), (axi, .inl (cy, 8, .inl fxi)), (axu, .inl (cy, 8, .inl fxu))] s.heap := hP
  obtain ⟨locs, hlocs⟩ : ∃ lc : List Loc, lc = [] := ⟨_, rfl⟩
  rw [← hlocs] at hS ⊢
  obtain ⟨H, hH⟩ : ∃ H : Heap, H = s.heap := ⟨_, rfl⟩
  have hP2 := hP; rw [← hH] at hP2
  have hS2 : va_S A s.heap H locs := by rw [hH]; exact hS
  suffices hgo : W p l e (headSpec wsX5_rowDistance ({ frames := 3, cells := 0, slots := 0, locals := 73 })).room s m (([.ref ax, .int p0] : List Value).toArray) below meth c H locs 0 0 (MQ below (va_Qi (fun (r : Int32) (_ : Unit) => r = res.1) (QW (dC, dI) cy A [(ax, .inr (5, [.int vxn, .ref axr, .ref axb, .ref axj, .int vxk, .ref axi, .ref axu, .long vxA, .long vxB, .long vxC, .long vxE])), (axr, .inl (cy, 8, .inl fxr)), (axi, .inl (cy, 8, .inl res.2.1)), (axu, .inl (cy, 8, .inl res.2.2))]) A) (([.ref ax, .int p0] : List Value).toArray) s 0 0 A) (F0 m 0 ls []) by rw [hH] at hgo; exact hgo
  replace hP := hP2
  replace hS := hS2
  clear hP2 hS2
  unfold fX5_rowDistance at h
  refine lv_aload_n hx hb dX5_rowDistance_0 rfl (lv_at hl 0 rfl) ?_
  obtain ⟨r1, hr1, h⟩ := bd_some h
  have hFc := va_free (wc := [(ax, .inr (5, [.int vxn, .ref axr, .ref axb, .ref axj, .int vxk, .ref axi, .ref axu, .long vxA, .long vxB, .long vxC, .long vxE])), (axr, .inl (cy, 8, .inl fxr)), (axi, .inl (cy, 8, .inl fxi))]) hD hS hA [0, 1, 2] rfl
  refine va_callv (va_runV (As := []) (rest := []) ⟨hx, hb, hml, hown, hts⟩ (c_X5_takeRow l dC dI cy ax axr axb axj axi axu H.size vxn vxk vxA vxB vxC vxE fxr fxi  r1 hr1) (cwV 0 hts gX5_rowDistance_X5_takeRow rfl rfl rfl (by decide +kernel) ⟨Nat.le_of_ble_eq_true rfl, Nat.le_of_ble_eq_true rfl⟩) ⟨PW_fb, va_recv hK hP (ci := 5) (q0 := 0) rfl rfl, PW_pre (hP.sub (ws' := [(ax, .inr (5, [.int vxn, .ref axr, .ref axb, .ref axj, .int vxk, .ref axi, .ref axu, .long vxA, .long vxB, .long vxC, .long vxE])), (axr, .inl (cy, 8, .inl fxr)), (axi, .inl (cy, 8, .inl fxi))]) [0, 1, 2] rfl) hK (hD.sub [0, 1, 2] (by decide) rfl) hN⟩ rfl rfl hl.1 rfl (lv_room (Nat.le_of_ble_eq_true rfl)) dX5_rowDistance_1 ⟨Nat.zero_le _, Nat.zero_le _⟩) hS (fun q _ h => hFc q h) hFc (fun u t H locs ht hvm hw hB hz1 hk1 hS => ?_)
  obtain ⟨hP, hD⟩ := jn (wr := [(axu, .inl (cy, 8, .inl fxu))]) (w1 := [(ax, .inr (5, [.int vxn, .ref axr, .ref axb, .ref axj, .int vxk, .ref axi, .ref axu, .long vxA, .long vxB, .long vxC, .long vxE])), (axr, .inl (cy, 8, .inl fxr)), (axi, .inl (cy, 8, .inl r1))]) (ws' := [(ax, .inr (5, [.int vxn, .ref axr, .ref axb, .ref axj, .int vxk, .ref axi, .ref axu, .long vxA, .long vxB, .long vxC, .long vxE])), (axr, .inl (cy, 8, .inl fxr)), (axi, .inl (cy, 8, .inl r1)), (axu, .inl (cy, 8, .inl fxu))]) hP hD [0, 1, 2] [3] rfl rfl (by decide) (by decide) hk1 hFc hB ht [1, 2, 3, 0] rfl (by decide) rfl
  clear hFc hB hk1 hz1 hvm
  refine lv_aload_n hx hb dX5_rowDistance_4 rfl (lv_at hl 0 rfl) ?_
  refine lv_iload_n hx hb dX5_rowDistance_5 rfl (lv_at hl 1 rfl) ?_
  obtain ⟨r2, hr2, h⟩ := bd_some h
  have hFc := va_free (wc := [(ax, .inr (5, [.int vxn, .ref axr, .ref axb, .ref axj, .int vxk, .ref axi, .ref axu, .long vxA, .long vxB, .long vxC, .long vxE])), (axi, .inl (cy, 8, .inl r1)), (axu, .inl (cy, 8, .inl fxu))]) hD hS hA [0, 2, 3] rfl
  refine va_calli (va_runV (As := [.int p0]) (rest := []) ⟨hx, hb, hml, hown, hts⟩ (c_X5_fromKind l dC dI cy ax axr axb axj axi axu H.size vxn vxk vxA vxB vxC vxE r1 fxu p0 r2 hr2) (cwV 1 hts gX5_rowDistance_X5_fromKind rfl rfl rfl (by decide +kernel) ⟨Nat.le_of_ble_eq_true rfl, Nat.le_of_ble_eq_true rfl⟩) ⟨PW_fb, va_recv hK hP (ci := 5) (q0 := 0) rfl rfl, PW_pre (hP.sub (ws' := [(ax, .inr (5, [.int vxn, .ref axr, .ref axb, .ref axj, .int vxk, .ref axi, .ref axu, .long vxA, .long vxB, .long vxC, .long vxE])), (axi, .inl (cy, 8, .inl r1)), (axu, .inl (cy, 8, .inl fxu))]) [0, 2, 3] rfl) hK (hD.sub [0, 2, 3] (by decide) rfl) hN⟩ rfl rfl hl.1 rfl (lv_room (Nat.le_of_ble_eq_true rfl)) dX5_rowDistance_6 ⟨Nat.zero_le _, Nat.zero_le _⟩) hS (fun q _ h => hFc q h) hFc (fun rz u t H locs ht hvm hw hB hz1 hk1 hS => ?_)
  obtain ⟨hP, hD⟩ := jn (wr := [(axr, .inl (cy, 8, .inl fxr))]) (w1 := [(ax, .inr (5, [.int vxn, .ref axr, .ref axb, .ref axj, .int vxk, .ref axi, .ref axu, .long vxA, .long vxB, .long vxC, .long vxE])), (axi, .inl (cy, 8, .inl r1)), (axu, .inl (cy, 8, .inl r2.2))]) (ws' := [(ax, .inr (5, [.int vxn, .ref axr, .ref axb, .ref axj, .int vxk, .ref axi, .ref axu, .long vxA, .long vxB, .long vxC, .long vxE])), (axr, .inl (cy, 8, .inl fxr)), (axi, .inl (cy, 8, .inl r1)), (axu, .inl (cy, 8, .inl r2.2))]) hP hD [0, 2, 3] [1] rfl rfl (by decide) (by decide) hk1 hFc hB ht [1, 0, 2, 3] rfl (by decide) rfl
  replace hw := hw.symm
  subst hw
  clear hFc hB hk1 hz1 hvm
  have h0 := Option.some.inj h
  subst h0
  exact W.iret hx hb hr (fun t ht hW => ⟨⟨_, (), rfl, rfl, QW_mk hP hK hD ht hW⟩, hS.F ht⟩) hS.2.2 dX5_rowDistance_9

noncomputable def fX5_findNearest_L34 (n : Nat) (l4 : Int32) (l5 : Int32) (l6 : Int32) (vxn : Int32) (fxr : Nat → Int32) (fxi : Nat → Int32) : Option (Int32 × Int32 × (Nat → Int32)) := match n with
  | 0 => none
  | n + 1 => if vxn ≤ l6 then (some (l5, l6, fxi)) else (gin l6 8 (gin l6 8 (gin l6 8 (if ((upd fxi l6.toNatClampNeg ((l4 >>> (((2 : Int32) * ((vxn - (1 : Int32)) - l6)) &&& 31)) &&& (3 : Int32))) l6.toNatClampNeg) = (fxr l6.toNatClampNeg) then (fX5_findNearest_L34 n l4 (l5 + (0 : Int32)) (l6 + (1 : Int32)) vxn fxr (upd fxi l6.toNatClampNeg ((l4 >>> (((2 : Int32) * ((vxn - (1 : Int32)) - l6)) &&& 31)) &&& (3 : Int32)))) else (fX5_findNearest_L34 n l4 (l5 + (1 : Int32)) (l6 + (1 : Int32)) vxn fxr (upd fxi l6.toNatClampNeg ((l4 >>> (((2 : Int32) * ((vxn - (1 : Int32)) - l6)) &&& 31)) &&& (3 : Int32))))))))
theorem fX5_findNearest_L34_0 (l4 : Int32) (l5 : Int32) (l6 : Int32) (vxn : Int32) (fxr : Nat → Int32) (fxi : Nat → Int32) : fX5_findNearest_L34 0 l4 l5 l6 vxn fxr fxi = none := rfl
theorem fX5_findNearest_L34_s (n : Nat) (l4 : Int32) (l5 : Int32) (l6 : Int32) (vxn : Int32) (fxr : Nat → Int32) (fxi : Nat → Int32) : fX5_findNearest_L34 (n + 1) l4 l5 l6 vxn fxr fxi = if vxn ≤ l6 then (some (l5, l6, fxi)) else (gin l6 8 (gin l6 8 (gin l6 8 (if ((upd fxi l6.toNatClampNeg ((l4 >>> (((2 : Int32) * ((vxn - (1 : Int32)) - l6)) &&& 31)) &&& (3 : Int32))) l6.toNatClampNeg) = (fxr l6.toNatClampNeg) then (fX5_findNearest_L34 n l4 (l5 + (0 : Int32)) (l6 + (1 : Int32)) vxn fxr (upd fxi l6.toNatClampNeg ((l4 >>> (((2 : Int32) * ((vxn - (1 : Int32)) - l6)) &&& 31)) &&& (3 : Int32)))) else (fX5_findNearest_L34 n l4 (l5 + (1 : Int32)) (l6 + (1 : Int32)) vxn fxr (upd fxi l6.toNatClampNeg ((l4 >>> (((2 : Int32) * ((vxn - (1 : Int32)) - l6)) &&& 31)) &&& (3 : Int32)))))))) := rfl
noncomputable def fX5_findNearest_L11 (n : Nat) (l1 : Int32) (l2 : Int32) (l3 : Int32) (l4 : Int32) (vxn : Int32) (fxr : Nat → Int32) (fxi : Nat → Int32) (fxu : Nat → Int32) : Option (Int32 × Int32 × (Nat → Int32) × (Nat → Int32)) := match n with
  | 0 => none
  | n + 1 => if ((1 : Int32) <<< (((2 : Int32) * vxn) &&& 31)) ≤ l4 then (some (l3, l4, fxi, fxu)) else (if l3 = 0 then (bd (fX5_findNearest_L34 FU l4 (0 : Int32) (0 : Int32) vxn fxr fxi) fun q5 => if q5.1 = l2 then (bd (fX5_fromKind vxn q5.2.2 fxu l1) fun r6 => if r6.1 = 0 then (fX5_findNearest_L11 n l1 l2 (1 : Int32) (l4 + (1 : Int32)) vxn fxr q5.2.2 r6.2) else (fX5_findNearest_L11 n l1 l2 (0 : Int32) (l4 + (1 : Int32)) vxn fxr q5.2.2 r6.2)) else (fX5_findNearest_L11 n l1 l2 (0 : Int32) (l4 + (1 : Int32)) vxn fxr q5.2.2 fxu)) else (some (l3, l4, fxi, fxu)))
theorem fX5_findNearest_L11_0 (l1 : Int32) (l2 : Int32) (l3 : Int32) (l4 : Int32) (vxn : Int32) (fxr : Nat → Int32) (fxi : Nat → Int32) (fxu : Nat → Int32) : fX5_findNearest_L11 0 l1 l2 l3 l4 vxn fxr fxi fxu = none := rfl
theorem fX5_findNearest_L11_s (n : Nat) (l1 : Int32) (l2 : Int32) (l3 : Int32) (l4 : Int32) (vxn : Int32) (fxr : Nat → Int32) (fxi : Nat → Int32) (fxu : Nat → Int32) : fX5_findNearest_L11 (n + 1) l1 l2 l3 l4 vxn fxr fxi fxu = if ((1 : Int32) <<< (((2 : Int32) * vxn) &&& 31)) ≤ l4 then (some (l3, l4, fxi, fxu)) else (if l3 = 0 then (bd (fX5_findNearest_L34 FU l4 (0 : Int32) (0 : Int32) vxn fxr fxi) fun q5 => if q5.1 = l2 then (bd (fX5_fromKind vxn q5.2.2 fxu l1) fun r6 => if r6.1 = 0 then (fX5_findNearest_L11 n l1 l2 (1 : Int32) (l4 + (1 : Int32)) vxn fxr q5.2.2 r6.2) else (fX5_findNearest_L11 n l1 l2 (0 : Int32) (l4 + (1 : Int32)) vxn fxr q5.2.2 r6.2)) else (fX5_findNearest_L11 n l1 l2 (0 : Int32) (l4 + (1 : Int32)) vxn fxr q5.2.2 fxu)) else (some (l3, l4, fxi, fxu))) := rfl
noncomputable def fX5_findNearest (vxn : Int32) (fxr : Nat → Int32) (fxi : Nat → Int32) (fxu : Nat → Int32) (p0 : Int32) : Option ((Nat → Int32) × (Nat → Int32)) := bd (fX5_rowDistance vxn fxr fxi fxu p0) fun r1 => bd (fX5_findNearest_L11 FU p0 r1.1 (0 : Int32) (0 : Int32) vxn fxr r1.2.1 r1.2.2) fun q12 => some (q12.2.2.1, q12.2.2.2)
set_option maxHeartbeats 4000000 in
set_option maxRecDepth 100000 in
theorem c_X5_findNearest (l : Launch) (dC : Nat → ClassId) (dI : Nat → Nat → Nat) (cy : ClassId) (ax axr axb axj axi axu : Nat) (sz : Nat) (vxn : Int32) (vxk : Int32) (vxA : Int64) (vxB : Int64) (vxC : Int64) (vxE : Int64) (fxr : Nat → Int32) (fxi : Nat → Int32) (fxu : Nat → Int32) (p0 : Int32) (res : (Nat → Int32) × (Nat → Int32)) (h : fX5_findNearest vxn fxr fxi fxu p0 = some res) : Met l yX5_findNearest wsX5_findNearest ({ frames := 4, cells := 0, slots := 0, locals := 94 }) (va_Pc [.ref ax, .int p0] (PW (dC, dI) cy sz [(ax, .inr (5, [.int vxn, .ref axr, .ref axb, .ref axj, .int vxk, .ref axi, .ref axu, .long vxA, .long vxB, .long vxC, .long vxE])), (axr, .inl (cy, 8, .inl fxr)), (axi, .inl (cy, 8, .inl fxi)), (axu, .inl (cy, 8, .inl fxu))])) (va_Qv (fun (_ : Unit) => True) (QW (dC, dI) cy (va_A [(ax, .inr (5, [.int vxn, .ref axr, .ref axb, .ref axj, .int vxk, .ref axi, .ref axu, .long vxA, .long vxB, .long vxC, .long vxE])), (axr, .inl (cy, 8, .inl fxr)), (axi, .inl (cy, 8, .inl fxi)), (axu, .inl (cy, 8, .inl fxu))] sz) [(ax, .inr (5, [.int vxn, .ref axr, .ref axb, .ref axj, .int vxk, .ref axi, .ref axu, .long vxA, .long vxB, .long vxC, .long vxE])), (axr, .inl (cy, 8, .inl fxr)), (axi, .inl (cy, 8, .inl res.1)), (axu, .inl (cy, 8, .inl res.2))]) (va_A [(ax, .inr (5, [.int vxn, .ref axr, .ref axb, .ref axj, .int vxk, .ref axi, .ref axu, .long vxA, .long vxB, .long vxC, .long vxE])), (axr, .inl (cy, 8, .inl fxr)), (axi, .inl (cy, 8, .inl fxi)), (axu, .inl (cy, 8, .inl fxu))] sz)) 0 0 (va_A [(ax, .inr (5, [.int vxn, .ref axr, .ref axb, .ref axj, .int vxk, .ref axi, .ref axu, .long vxA, .long vxB, .long vxC, .long vxE])), (axr, .inl (cy, 8, .inl fxr)), (axi, .inl (cy, 8, .inl fxi)), (axu, .inl (cy, 8, .inl fxu))] sz) := by
  refine Met.ofW (cc := cX5_findNearest) (maxL := 7) (ret := none) (by decide) rfl ?_
  intro p e s m args below meth c s₁ B hml hv
  obtain ⟨rfl, hsz, hP, hK, hD0, hN⟩ := hv
  have hx := B.exec
  have hb := B.bytes
  have hr := B.returns
  have hts := atoms_spec (ws := wsX5_findNearest) B.pre
  have hown : s.vm.findClass RX5 = some m.cls := findClass_of_methodNamed B.named
  have hlocks := B.notSynchronized
  subst hsz
  have hD := hD0.self (sz := s.heap.size)
  clear hD0
  generalize hAe : va_A [(ax, .inr (5, [.int vxn, .ref axr, .ref axb, .ref axj, .int vxk, .ref axi, .ref axu, .long vxA, .long vxB, .long vxC, .long vxE])), (axr, .inl (cy, 8, .inl fxr)), (axi, .inl (cy, 8, .inl fxi)), (axu, .inl (cy, 8, .inl fxu))] s.heap.size = A at hD ⊢
  have hA : ∀ q : Nat, s.heap.size ≤ q → A q := fun q h => by rw [← hAe]; exact Or.inr h
  have hS : va_S A s.heap s.heap [] := va_S.rf
  have hl := lv_entry ([.ref ax, .int p0]) (n := 7) (Nat.le_of_ble_eq_true rfl)
  rw [lg_entry_eq]
  generalize (lg_sl ([.ref ax, .int p0]) ++ List.replicate (7 - (lg_sl ([.ref ax, .int p0])).length) Slot.unset).toArray = ls at hl ⊢
  replace hl : lv_has ls 7 [(0, .ref ax), (1, .int p0)] := hl
  replace hP : va_P (dC, dI) vwCl [(ax, .inr (5, [.int vxn, .ref axr, .ref axb, .ref axj, .int vxk, .ref axi, .ref axu, .long vxA, .long vxB, .long vxC, .long vxE])), (axr, .inl (cy, 8, .inl fxr)), (axi, .inl (cy, 8, .inl fxi)), (axu, .inl (cy, 8, .inl fxu))] s.heap := hP
  obtain ⟨locs, hlocs⟩ : ∃ lc : List Loc, lc = [] := ⟨_, rfl⟩
  rw [← hlocs] at hS ⊢
  obtain ⟨H, hH⟩ : ∃ H : Heap, H = s.heap := ⟨_, rfl⟩
  have hP2 := hP; rw [← hH] at hP2
  have hS2 : va_S A s.heap H locs := by rw [hH]; exact hS
  suffices hgo : W p l e (headSpec wsX5_findNearest ({ frames := 4, cells := 0, slots := 0, locals := 94 })).room s m (([.ref ax, .int p0] : List Value).toArray) below meth c H locs 0 0 (MQ below (va_Qv (fun (_ : Unit) => True) (QW (dC, dI) cy A [(ax, .inr (5, [.int vxn, .ref axr, .ref axb, .ref axj, .int vxk, .ref axi, .ref axu, .long vxA, .long vxB, .long vxC, .long vxE])), (axr, .inl (cy, 8, .inl fxr)), (axi, .inl (cy, 8, .inl res.1)), (axu, .inl (cy, 8, .inl res.2))]) A) (([.ref ax, .int p0] : List Value).toArray) s 0 0 A) (F0 m 0 ls []) by rw [hH] at hgo; exact hgo
  replace hP := hP2
  replace hS := hS2
  clear hP2 hS2
  have hin_X5 : ∀ w ∈ wsX50, w ∈ wsX5_findNearest := by decide +kernel
  have hf_7 := hts (.fieldLink RX5 7 "FewLooksModel" "n" "I") (by decide +kernel)
  have hf_13 := hts (.fieldLink RX5 13 "FewLooksModel" "row" "[I") (by decide +kernel)
  have hf_26 := hts (.fieldLink RX5 26 "FewLooksModel" "it" "[I") (by decide +kernel)
  unfold fX5_findNearest at h
  refine lv_aload_n hx hb dX5_findNearest_0 rfl (lv_at hl 0 rfl) ?_
  refine lv_iload_n hx hb dX5_findNearest_1 rfl (lv_at hl 1 rfl) ?_
  obtain ⟨r1, hr1, h⟩ := bd_some h
  have hFc := va_free (wc := [(ax, .inr (5, [.int vxn, .ref axr, .ref axb, .ref axj, .int vxk, .ref axi, .ref axu, .long vxA, .long vxB, .long vxC, .long vxE])), (axr, .inl (cy, 8, .inl fxr)), (axi, .inl (cy, 8, .inl fxi)), (axu, .inl (cy, 8, .inl fxu))]) hD hS hA [0, 1, 2, 3] rfl
  refine va_calli (va_runV (As := [.int p0]) (rest := []) ⟨hx, hb, hml, hown, hts⟩ (c_X5_rowDistance l dC dI cy ax axr axb axj axi axu H.size vxn vxk vxA vxB vxC vxE fxr fxi fxu p0 r1 hr1) (cwV 1 hts gX5_findNearest_X5_rowDistance rfl rfl rfl (by decide +kernel) ⟨Nat.le_of_ble_eq_true rfl, Nat.le_of_ble_eq_true rfl⟩) ⟨PW_fb, va_recv hK hP (ci := 5) (q0 := 0) rfl rfl, PW_pre (hP.sub (ws' := [(ax, .inr (5, [.int vxn, .ref axr, .ref axb, .ref axj, .int vxk, .ref axi, .ref axu, .long vxA, .long vxB, .long vxC, .long vxE])), (axr, .inl (cy, 8, .inl fxr)), (axi, .inl (cy, 8, .inl fxi)), (axu, .inl (cy, 8, .inl fxu))]) [0, 1, 2, 3] rfl) hK (hD.sub [0, 1, 2, 3] (by decide) rfl) hN⟩ rfl rfl hl.1 rfl (lv_room (Nat.le_of_ble_eq_true rfl)) dX5_findNearest_2 ⟨Nat.zero_le _, Nat.zero_le _⟩) hS (fun q _ h => hFc q h) hFc (fun rz u t H locs ht hvm hw hB hz1 hk1 hS => ?_)
  obtain ⟨hP, hD⟩ := jn (wr := []) (w1 := [(ax, .inr (5, [.int vxn, .ref axr, .ref axb, .ref axj, .int vxk, .ref axi, .ref axu, .long vxA, .long vxB, .long vxC, .long vxE])), (axr, .inl (cy, 8, .inl fxr)), (axi, .inl (cy, 8, .inl r1.2.1)), (axu, .inl (cy, 8, .inl r1.2.2))]) (ws' := [(ax, .inr (5, [.int vxn, .ref axr, .ref axb, .ref axj, .int vxk, .ref axi, .ref axu, .long vxA, .long vxB, .long vxC, .long vxE])), (axr, .inl (cy, 8, .inl fxr)), (axi, .inl (cy, 8, .inl r1.2.1)), (axu, .inl (cy, 8, .inl r1.2.2))]) hP hD [0, 1, 2, 3] [] rfl rfl (by decide) (by decide) hk1 hFc hB ht [0, 1, 2, 3] rfl (by decide) rfl
  replace hw := hw.symm
  subst hw
  clear hFc hB hk1 hz1 hvm
  refine lv_istore_n (lv' := [(2, .int r1.1), (0, .ref ax), (1, .int p0)]) hx hb dX5_findNearest_5 rfl hl (by decide) rfl (fun ls hl => ?_)
  refine lv_iconst (v := (0 : Int32)) hx hb dX5_findNearest_6 (by decide) ?_
  refine lv_istore_n (lv' := [(3, .int (0 : Int32)), (2, .int r1.1), (0, .ref ax), (1, .int p0)]) hx hb dX5_findNearest_7 rfl hl (by decide) rfl (fun ls hl => ?_)
  refine lv_iconst (v := (0 : Int32)) hx hb dX5_findNearest_8 (by decide) ?_
  refine lv_istore (lv' := [(4, .int (0 : Int32)), (3, .int (0 : Int32)), (2, .int r1.1), (0, .ref ax), (1, .int p0)]) hx hb dX5_findNearest_9 hl (by decide) rfl (fun ls hl => ?_)
  have L11_10 : ∀ (n : Nat) (l1 : Int32) (l2 : Int32) (l3 : Int32) (l4 : Int32) (fxi : Nat → Int32) (fxu : Nat → Int32) (rs : (Int32 × Int32 × (Nat → Int32) × (Nat → Int32))) (H : Heap) (locs : List Loc) (ls : Array Slot), fX5_findNearest_L11 n l1 l2 l3 l4 vxn fxr fxi fxu = some rs → lv_has ls 7 [(0, .ref ax), (1, .int l1), (2, .int l2), (3, .int l3), (4, .int l4)] → va_P (dC, dI) vwCl [(ax, .inr (5, [.int vxn, .ref axr, .ref axb, .ref axj, .int vxk, .ref axi, .ref axu, .long vxA, .long vxB, .long vxC, .long vxE])), (axr, .inl (cy, 8, .inl fxr)), (axi, .inl (cy, 8, .inl fxi)), (axu, .inl (cy, 8, .inl fxu))] H → va_D A [(ax, .inr (5, [.int vxn, .ref axr, .ref axb, .ref axj, .int vxk, .ref axi, .ref axu, .long vxA, .long vxB, .long vxC, .long vxE])), (axr, .inl (cy, 8, .inl fxr)), (axi, .inl (cy, 8, .inl fxi)), (axu, .inl (cy, 8, .inl fxu))] → va_S A s.heap H locs → (∀ (H : Heap) (locs : List Loc) (ls : Array Slot), lv_has ls 7 [(0, .ref ax), (1, .int l1), (2, .int l2), (3, .int rs.1), (4, .int rs.2.1)] → va_P (dC, dI) vwCl [(ax, .inr (5, [.int vxn, .ref axr, .ref axb, .ref axj, .int vxk, .ref axi, .ref axu, .long vxA, .long vxB, .long vxC, .long vxE])), (axr, .inl (cy, 8, .inl fxr)), (axi, .inl (cy, 8, .inl rs.2.2.1)), (axu, .inl (cy, 8, .inl rs.2.2.2))] H → va_D A [(ax, .inr (5, [.int vxn, .ref axr, .ref axb, .ref axj, .int vxk, .ref axi, .ref axu, .long vxA, .long vxB, .long vxC, .long vxE])), (axr, .inl (cy, 8, .inl fxr)), (axi, .inl (cy, 8, .inl rs.2.2.1)), (axu, .inl (cy, 8, .inl rs.2.2.2))] → va_S A s.heap H locs → W p l e (headSpec wsX5_findNearest ({ frames := 4, cells := 0, slots := 0, locals := 94 })).room s m (([.ref ax, .int p0] : List Value).toArray) below meth c H locs 0 0 (MQ below (va_Qv (fun (_ : Unit) => True) (QW (dC, dI) cy A [(ax, .inr (5, [.int vxn, .ref axr, .ref axb, .ref axj, .int vxk, .ref axi, .ref axu, .long vxA, .long vxB, .long vxC, .long vxE])), (axr, .inl (cy, 8, .inl fxr)), (axi, .inl (cy, 8, .inl res.1)), (axu, .inl (cy, 8, .inl res.2))]) A) (([.ref ax, .int p0] : List Value).toArray) s 0 0 A) (F0 m 125 ls [])) → W p l e (headSpec wsX5_findNearest ({ frames := 4, cells := 0, slots := 0, locals := 94 })).room s m (([.ref ax, .int p0] : List Value).toArray) below meth c H locs 0 0 (MQ below (va_Qv (fun (_ : Unit) => True) (QW (dC, dI) cy A [(ax, .inr (5, [.int vxn, .ref axr, .ref axb, .ref axj, .int vxk, .ref axi, .ref axu, .long vxA, .long vxB, .long vxC, .long vxE])), (axr, .inl (cy, 8, .inl fxr)), (axi, .inl (cy, 8, .inl res.1)), (axu, .inl (cy, 8, .inl res.2))]) A) (([.ref ax, .int p0] : List Value).toArray) s 0 0 A) (F0 m 11 ls []) := by
    intro n
    induction n with
    | zero =>
      intro l1 l2 l3 l4 fxi fxu rs H locs ls h
      rw [fX5_findNearest_L11_0] at h
      cases h
    | succ n ih =>
      intro l1 l2 l3 l4 fxi fxu rs H locs ls h hl hP hD hS K
      rw [fX5_findNearest_L11_s] at h
      refine lv_iload hx hb dX5_findNearest_11 (lv_at hl 4 rfl) ?_
      refine lv_iconst (v := (1 : Int32)) hx hb dX5_findNearest_13 (by decide) ?_
      refine lv_iconst (v := (2 : Int32)) hx hb dX5_findNearest_14 (by decide) ?_
      refine lv_aload_n hx hb dX5_findNearest_15 rfl (lv_at hl 0 rfl) ?_
      refine va_get (D := (dC, dI)) (ci := 5) (v := .int vxn) (C := RX5) (T := TX5) (N := 11) hx hb hts hin_X5 hown hK hP 0 rfl rfl 0 (by decide) (hf_7) (fun _ h9 => h9) rfl dX5_findNearest_16 ?_
      refine lv_imul hx hb dX5_findNearest_19 ?_
      refine lv_ishl hx hb dX5_findNearest_20 ?_
      refine lv_icmp_ge (tgt := 125) hx hb dX5_findNearest_21 (by decide) (fun c10 => ?_) (fun c10 => ?_)
      · rw [if_pos c10] at h
        have h0 := Option.some.inj h
        subst h0
        exact K H locs ls (lv_sub hl [0, 1, 2, 3, 4] rfl) hP hD hS
      · rw [if_neg c10] at h
        refine lv_iload_n hx hb dX5_findNearest_24 rfl (lv_at hl 3 rfl) ?_
        refine lv_if_ne (tgt := 125) hx hb dX5_findNearest_25 (by decide) (fun c9 => ?_) (fun c9 => ?_)
        · rw [if_neg c9] at h
          have h0 := Option.some.inj h
          subst h0
          exact K H locs ls (lv_sub hl [0, 1, 2, 3, 4] rfl) hP hD hS
        · rw [if_pos c9] at h
          refine lv_iconst (v := (0 : Int32)) hx hb dX5_findNearest_28 (by decide) ?_
          refine lv_istore (lv' := [(5, .int (0 : Int32)), (0, .ref ax), (1, .int l1), (2, .int l2), (3, .int l3), (4, .int l4)]) hx hb dX5_findNearest_29 hl (by decide) rfl (fun ls hl => ?_)
          refine lv_iconst (v := (0 : Int32)) hx hb dX5_findNearest_31 (by decide) ?_
          refine lv_istore (lv' := [(6, .int (0 : Int32)), (5, .int (0 : Int32)), (0, .ref ax), (1, .int l1), (2, .int l2), (3, .int l3), (4, .int l4)]) hx hb dX5_findNearest_32 hl (by decide) rfl (fun ls hl => ?_)
          have L34_3 : ∀ (n : Nat) (l1 : Int32) (l2 : Int32) (l3 : Int32) (l4 : Int32) (l5 : Int32) (l6 : Int32) (fxi : Nat → Int32) (fxu : Nat → Int32) (rs : (Int32 × Int32 × (Nat → Int32))) (H : Heap) (locs : List Loc) (ls : Array Slot), fX5_findNearest_L34 n l4 l5 l6 vxn fxr fxi = some rs → lv_has ls 7 [(0, .ref ax), (1, .int l1), (2, .int l2), (3, .int l3), (4, .int l4), (5, .int l5), (6, .int l6)] → va_P (dC, dI) vwCl [(ax, .inr (5, [.int vxn, .ref axr, .ref axb, .ref axj, .int vxk, .ref axi, .ref axu, .long vxA, .long vxB, .long vxC, .long vxE])), (axr, .inl (cy, 8, .inl fxr)), (axi, .inl (cy, 8, .inl fxi)), (axu, .inl (cy, 8, .inl fxu))] H → va_D A [(ax, .inr (5, [.int vxn, .ref axr, .ref axb, .ref axj, .int vxk, .ref axi, .ref axu, .long vxA, .long vxB, .long vxC, .long vxE])), (axr, .inl (cy, 8, .inl fxr)), (axi, .inl (cy, 8, .inl fxi)), (axu, .inl (cy, 8, .inl fxu))] → va_S A s.heap H locs → (∀ (H : Heap) (locs : List Loc) (ls : Array Slot), lv_has ls 7 [(0, .ref ax), (1, .int l1), (2, .int l2), (3, .int l3), (4, .int l4), (5, .int rs.1), (6, .int rs.2.1)] → va_P (dC, dI) vwCl [(ax, .inr (5, [.int vxn, .ref axr, .ref axb, .ref axj, .int vxk, .ref axi, .ref axu, .long vxA, .long vxB, .long vxC, .long vxE])), (axr, .inl (cy, 8, .inl fxr)), (axi, .inl (cy, 8, .inl rs.2.2)), (axu, .inl (cy, 8, .inl fxu))] H → va_D A [(ax, .inr (5, [.int vxn, .ref axr, .ref axb, .ref axj, .int vxk, .ref axi, .ref axu, .long vxA, .long vxB, .long vxC, .long vxE])), (axr, .inl (cy, 8, .inl fxr)), (axi, .inl (cy, 8, .inl rs.2.2)), (axu, .inl (cy, 8, .inl fxu))] → va_S A s.heap H locs → W p l e (headSpec wsX5_findNearest ({ frames := 4, cells := 0, slots := 0, locals := 94 })).room s m (([.ref ax, .int p0] : List Value).toArray) below meth c H locs 0 0 (MQ below (va_Qv (fun (_ : Unit) => True) (QW (dC, dI) cy A [(ax, .inr (5, [.int vxn, .ref axr, .ref axb, .ref axj, .int vxk, .ref axi, .ref axu, .long vxA, .long vxB, .long vxC, .long vxE])), (axr, .inl (cy, 8, .inl fxr)), (axi, .inl (cy, 8, .inl res.1)), (axu, .inl (cy, 8, .inl res.2))]) A) (([.ref ax, .int p0] : List Value).toArray) s 0 0 A) (F0 m 99 ls [])) → W p l e (headSpec wsX5_findNearest ({ frames := 4, cells := 0, slots := 0, locals := 94 })).room s m (([.ref ax, .int p0] : List Value).toArray) below meth c H locs 0 0 (MQ below (va_Qv (fun (_ : Unit) => True) (QW (dC, dI) cy A [(ax, .inr (5, [.int vxn, .ref axr, .ref axb, .ref axj, .int vxk, .ref axi, .ref axu, .long vxA, .long vxB, .long vxC, .long vxE])), (axr, .inl (cy, 8, .inl fxr)), (axi, .inl (cy, 8, .inl res.1)), (axu, .inl (cy, 8, .inl res.2))]) A) (([.ref ax, .int p0] : List Value).toArray) s 0 0 A) (F0 m 34 ls []) := by
            intro n
            induction n with
            | zero =>
              intro l1 l2 l3 l4 l5 l6 fxi fxu rs H locs ls h
              rw [fX5_findNearest_L34_0] at h
              cases h
            | succ n ih =>
              intro l1 l2 l3 l4 l5 l6 fxi fxu rs H locs ls h hl hP hD hS K
              rw [fX5_findNearest_L34_s] at h
              refine lv_iload hx hb dX5_findNearest_34 (lv_at hl 6 rfl) ?_
              refine lv_aload_n hx hb dX5_findNearest_36 rfl (lv_at hl 0 rfl) ?_
              refine va_get (D := (dC, dI)) (ci := 5) (v := .int vxn) (C := RX5) (T := TX5) (N := 11) hx hb hts hin_X5 hown hK hP 0 rfl rfl 0 (by decide) (hf_7) (fun _ h9 => h9) rfl dX5_findNearest_37 ?_
              refine lv_icmp_ge (tgt := 99) hx hb dX5_findNearest_40 (by decide) (fun c3 => ?_) (fun c3 => ?_)
              · rw [if_pos c3] at h
                have h0 := Option.some.inj h
                subst h0
                exact K H locs ls (lv_sub hl [0, 1, 2, 3, 4, 5, 6] rfl) hP hD hS
              · rw [if_neg c3] at h
                refine lv_aload_n hx hb dX5_findNearest_43 rfl (lv_at hl 0 rfl) ?_
                refine va_get (D := (dC, dI)) (ci := 5) (v := .ref axi) (C := RX5) (T := TX5) (N := 11) hx hb hts hin_X5 hown hK hP 0 rfl rfl 5 (by decide) (hf_26) (fun _ h9 => h9) rfl dX5_findNearest_44 ?_
                refine lv_iload hx hb dX5_findNearest_47 (lv_at hl 6 rfl) ?_
                refine lv_iload hx hb dX5_findNearest_49 (lv_at hl 4 rfl) ?_
                refine lv_iconst (v := (2 : Int32)) hx hb dX5_findNearest_51 (by decide) ?_
                refine lv_aload_n hx hb dX5_findNearest_52 rfl (lv_at hl 0 rfl) ?_
                refine va_get (D := (dC, dI)) (ci := 5) (v := .int vxn) (C := RX5) (T := TX5) (N := 11) hx hb hts hin_X5 hown hK hP 0 rfl rfl 0 (by decide) (hf_7) (fun _ h9 => h9) rfl dX5_findNearest_53 ?_
                refine lv_iconst (v := (1 : Int32)) hx hb dX5_findNearest_56 (by decide) ?_
                refine lv_isub hx hb dX5_findNearest_57 ?_
                refine lv_iload hx hb dX5_findNearest_58 (lv_at hl 6 rfl) ?_
                refine lv_isub hx hb dX5_findNearest_60 ?_
                refine lv_imul hx hb dX5_findNearest_61 ?_
                refine lv_ishr hx hb dX5_findNearest_62 ?_
                refine lv_iconst (v := (3 : Int32)) hx hb dX5_findNearest_63 (by decide) ?_
                refine lv_iand hx hb dX5_findNearest_64 ?_
                obtain ⟨hi, h⟩ := gin_some h
                refine va_iast hx hb hK hP hD hS 2 0 rfl rfl hi dX5_findNearest_65 (fun H locs hP hD hS => ?_)
                replace hP : va_P (dC, dI) vwCl [(ax, .inr (5, [.int vxn, .ref axr, .ref axb, .ref axj, .int vxk, .ref axi, .ref axu, .long vxA, .long vxB, .long vxC, .long vxE])), (axr, .inl (cy, 8, .inl fxr)), (axi, .inl (cy, 8, .inl (upd fxi l6.toNatClampNeg ((l4 >>> (((2 : Int32) * ((vxn - (1 : Int32)) - l6)) &&& 31)) &&& (3 : Int32))))), (axu, .inl (cy, 8, .inl fxu))] H := hP
                replace hD : va_D A [(ax, .inr (5, [.int vxn, .ref axr, .ref axb, .ref axj, .int vxk, .ref axi, .ref axu, .long vxA, .long vxB, .long vxC, .long vxE])), (axr, .inl (cy, 8, .inl fxr)), (axi, .inl (cy, 8, .inl (upd fxi l6.toNatClampNeg ((l4 >>> (((2 : Int32) * ((vxn - (1 : Int32)) - l6)) &&& 31)) &&& (3 : Int32))))), (axu, .inl (cy, 8, .inl fxu))] := hD
                refine lv_iload hx hb dX5_findNearest_66 (lv_at hl 5 rfl) ?_
                refine lv_aload_n hx hb dX5_findNearest_68 rfl (lv_at hl 0 rfl) ?_
                refine va_get (D := (dC, dI)) (ci := 5) (v := .ref axi) (C := RX5) (T := TX5) (N := 11) hx hb hts hin_X5 hown hK hP 0 rfl rfl 5 (by decide) (hf_26) (fun _ h9 => h9) rfl dX5_findNearest_69 ?_
                refine lv_iload hx hb dX5_findNearest_72 (lv_at hl 6 rfl) ?_
                obtain ⟨hi, h⟩ := gin_some h
                refine va_iald hx hb hK hP 2 0 rfl rfl hi dX5_findNearest_74 ?_
                refine lv_aload_n hx hb dX5_findNearest_75 rfl (lv_at hl 0 rfl) ?_
                refine va_get (D := (dC, dI)) (ci := 5) (v := .ref axr) (C := RX5) (T := TX5) (N := 11) hx hb hts hin_X5 hown hK hP 0 rfl rfl 1 (by decide) (hf_13) (fun _ h9 => h9) rfl dX5_findNearest_76 ?_
                refine lv_iload hx hb dX5_findNearest_79 (lv_at hl 6 rfl) ?_
                obtain ⟨hi, h⟩ := gin_some h
                refine va_iald hx hb hK hP 1 0 rfl rfl hi dX5_findNearest_81 ?_
                refine lv_icmp_ne (tgt := 89) hx hb dX5_findNearest_82 (by decide) (fun c2 => ?_) (fun c2 => ?_)
                · rw [if_neg c2] at h
                  refine lv_iconst (v := (1 : Int32)) hx hb dX5_findNearest_89 (by decide) ?_
                  refine lv_iadd hx hb dX5_findNearest_90 ?_
                  refine lv_istore (lv' := [(5, .int (l5 + (1 : Int32))), (0, .ref ax), (1, .int l1), (2, .int l2), (3, .int l3), (4, .int l4), (6, .int l6)]) hx hb dX5_findNearest_91 hl (by decide) rfl (fun ls hl => ?_)
                  refine lv_iinc (v := l6 + (1 : Int32)) (lv' := [(6, .int (l6 + (1 : Int32))), (5, .int (l5 + (1 : Int32))), (0, .ref ax), (1, .int l1), (2, .int l2), (3, .int l3), (4, .int l4)]) hx hb dX5_findNearest_93 hl (k := 6) rfl rfl (by decide) rfl (fun ls hl => ?_)
                  refine lv_goto (tgt := 34) hx hb dX5_findNearest_96 (by decide) ?_
                  exact ih l1 l2 l3 l4 (l5 + (1 : Int32)) (l6 + (1 : Int32)) (upd fxi l6.toNatClampNeg ((l4 >>> (((2 : Int32) * ((vxn - (1 : Int32)) - l6)) &&& 31)) &&& (3 : Int32))) fxu rs H locs ls h (lv_sub hl [2, 3, 4, 5, 6, 1, 0] rfl) hP hD hS K
                · rw [if_pos c2] at h
                  refine lv_iconst (v := (0 : Int32)) hx hb dX5_findNearest_85 (by decide) ?_
                  refine lv_goto (tgt := 90) hx hb dX5_findNearest_86 (by decide) ?_
                  refine lv_iadd hx hb dX5_findNearest_90 ?_
                  refine lv_istore (lv' := [(5, .int (l5 + (0 : Int32))), (0, .ref ax), (1, .int l1), (2, .int l2), (3, .int l3), (4, .int l4), (6, .int l6)]) hx hb dX5_findNearest_91 hl (by decide) rfl (fun ls hl => ?_)
                  refine lv_iinc (v := l6 + (1 : Int32)) (lv' := [(6, .int (l6 + (1 : Int32))), (5, .int (l5 + (0 : Int32))), (0, .ref ax), (1, .int l1), (2, .int l2), (3, .int l3), (4, .int l4)]) hx hb dX5_findNearest_93 hl (k := 6) rfl rfl (by decide) rfl (fun ls hl => ?_)
                  refine lv_goto (tgt := 34) hx hb dX5_findNearest_96 (by decide) ?_
                  exact ih l1 l2 l3 l4 (l5 + (0 : Int32)) (l6 + (1 : Int32)) (upd fxi l6.toNatClampNeg ((l4 >>> (((2 : Int32) * ((vxn - (1 : Int32)) - l6)) &&& 31)) &&& (3 : Int32))) fxu rs H locs ls h (lv_sub hl [2, 3, 4, 5, 6, 1, 0] rfl) hP hD hS K
          obtain ⟨q5, hq5, h⟩ := bd_some h
          refine L34_3 FU l1 l2 l3 l4 (0 : Int32) (0 : Int32) fxi fxu q5 H locs ls hq5 (lv_sub hl [2, 3, 4, 5, 6, 1, 0] rfl) hP hD hS (fun H locs ls hl hP hD hS => ?_)
          refine lv_iload hx hb dX5_findNearest_99 (lv_at hl 5 rfl) ?_
          refine lv_iload_n hx hb dX5_findNearest_101 rfl (lv_at hl 2 rfl) ?_
          refine lv_icmp_ne (tgt := 117) hx hb dX5_findNearest_102 (by decide) (fun c8 => ?_) (fun c8 => ?_)
          · rw [if_neg c8] at h
            refine lv_iconst (v := (0 : Int32)) hx hb dX5_findNearest_117 (by decide) ?_
            refine lv_istore_n (lv' := [(3, .int (0 : Int32)), (0, .ref ax), (1, .int l1), (2, .int l2), (4, .int l4), (5, .int q5.1), (6, .int q5.2.1)]) hx hb dX5_findNearest_118 rfl hl (by decide) rfl (fun ls hl => ?_)
            refine lv_iinc (v := l4 + (1 : Int32)) (lv' := [(4, .int (l4 + (1 : Int32))), (3, .int (0 : Int32)), (0, .ref ax), (1, .int l1), (2, .int l2), (5, .int q5.1), (6, .int q5.2.1)]) hx hb dX5_findNearest_119 hl (k := 4) rfl rfl (by decide) rfl (fun ls hl => ?_)
            refine lv_goto (tgt := 11) hx hb dX5_findNearest_122 (by decide) ?_
            exact ih l1 l2 (0 : Int32) (l4 + (1 : Int32)) q5.2.2 fxu rs H locs ls h (lv_sub hl [2, 3, 4, 1, 0] rfl) hP hD hS K
          · rw [if_pos c8] at h
            refine lv_aload_n hx hb dX5_findNearest_105 rfl (lv_at hl 0 rfl) ?_
            refine lv_iload_n hx hb dX5_findNearest_106 rfl (lv_at hl 1 rfl) ?_
            obtain ⟨r6, hr6, h⟩ := bd_some h
            have hFc := va_free (wc := [(ax, .inr (5, [.int vxn, .ref axr, .ref axb, .ref axj, .int vxk, .ref axi, .ref axu, .long vxA, .long vxB, .long vxC, .long vxE])), (axi, .inl (cy, 8, .inl q5.2.2)), (axu, .inl (cy, 8, .inl fxu))]) hD hS hA [0, 2, 3] rfl
            refine va_calli (va_runV (As := [.int l1]) (rest := []) ⟨hx, hb, hml, hown, hts⟩ (c_X5_fromKind l dC dI cy ax axr axb axj axi axu H.size vxn vxk vxA vxB vxC vxE q5.2.2 fxu l1 r6 hr6) (cwV 1 hts gX5_findNearest_X5_fromKind rfl rfl rfl (by decide +kernel) ⟨Nat.le_of_ble_eq_true rfl, Nat.le_of_ble_eq_true rfl⟩) ⟨PW_fb, va_recv hK hP (ci := 5) (q0 := 0) rfl rfl, PW_pre (hP.sub (ws' := [(ax, .inr (5, [.int vxn, .ref axr, .ref axb, .ref axj, .int vxk, .ref axi, .ref axu, .long vxA, .long vxB, .long vxC, .long vxE])), (axi, .inl (cy, 8, .inl q5.2.2)), (axu, .inl (cy, 8, .inl fxu))]) [0, 2, 3] rfl) hK (hD.sub [0, 2, 3] (by decide) rfl) hN⟩ rfl rfl hl.1 rfl (lv_room (Nat.le_of_ble_eq_true rfl)) dX5_findNearest_107 ⟨Nat.zero_le _, Nat.zero_le _⟩) hS (fun q _ h => hFc q h) hFc (fun rz u t H locs ht hvm hw hB hz1 hk1 hS => ?_)
            obtain ⟨hP, hD⟩ := jn (wr := [(axr, .inl (cy, 8, .inl fxr))]) (w1 := [(ax, .inr (5, [.int vxn, .ref axr, .ref axb, .ref axj, .int vxk, .ref axi, .ref axu, .long vxA, .long vxB, .long vxC, .long vxE])), (axi, .inl (cy, 8, .inl q5.2.2)), (axu, .inl (cy, 8, .inl r6.2))]) (ws' := [(ax, .inr (5, [.int vxn, .ref axr, .ref axb, .ref axj, .int vxk, .ref axi, .ref axu, .long vxA, .long vxB, .long vxC, .long vxE])), (axr, .inl (cy, 8, .inl fxr)), (axi, .inl (cy, 8, .inl q5.2.2)), (axu, .inl (cy, 8, .inl r6.2))]) hP hD [0, 2, 3] [1] rfl rfl (by decide) (by decide) hk1 hFc hB ht [1, 0, 2, 3] rfl (by decide) rfl
            replace hw := hw.symm
            subst hw
            clear hFc hB hk1 hz1 hvm
            refine lv_if_ne (tgt := 117) hx hb dX5_findNearest_110 (by decide) (fun c7 => ?_) (fun c7 => ?_)
            · rw [if_neg c7] at h
              refine lv_iconst (v := (0 : Int32)) hx hb dX5_findNearest_117 (by decide) ?_
              refine lv_istore_n (lv' := [(3, .int (0 : Int32)), (0, .ref ax), (1, .int l1), (2, .int l2), (4, .int l4), (5, .int q5.1), (6, .int q5.2.1)]) hx hb dX5_findNearest_118 rfl hl (by decide) rfl (fun ls hl => ?_)
              refine lv_iinc (v := l4 + (1 : Int32)) (lv' := [(4, .int (l4 + (1 : Int32))), (3, .int (0 : Int32)), (0, .ref ax), (1, .int l1), (2, .int l2), (5, .int q5.1), (6, .int q5.2.1)]) hx hb dX5_findNearest_119 hl (k := 4) rfl rfl (by decide) rfl (fun ls hl => ?_)
              refine lv_goto (tgt := 11) hx hb dX5_findNearest_122 (by decide) ?_
              exact ih l1 l2 (0 : Int32) (l4 + (1 : Int32)) q5.2.2 r6.2 rs H locs ls h (lv_sub hl [2, 3, 4, 1, 0] rfl) hP hD hS K
            · rw [if_pos c7] at h
              refine lv_iconst (v := (1 : Int32)) hx hb dX5_findNearest_113 (by decide) ?_
              refine lv_goto (tgt := 118) hx hb dX5_findNearest_114 (by decide) ?_
              refine lv_istore_n (lv' := [(3, .int (1 : Int32)), (0, .ref ax), (1, .int l1), (2, .int l2), (4, .int l4), (5, .int q5.1), (6, .int q5.2.1)]) hx hb dX5_findNearest_118 rfl hl (by decide) rfl (fun ls hl => ?_)
              refine lv_iinc (v := l4 + (1 : Int32)) (lv' := [(4, .int (l4 + (1 : Int32))), (3, .int (1 : Int32)), (0, .ref ax), (1, .int l1), (2, .int l2), (5, .int q5.1), (6, .int q5.2.1)]) hx hb dX5_findNearest_119 hl (k := 4) rfl rfl (by decide) rfl (fun ls hl => ?_)
              refine lv_goto (tgt := 11) hx hb dX5_findNearest_122 (by decide) ?_
              exact ih l1 l2 (1 : Int32) (l4 + (1 : Int32)) q5.2.2 r6.2 rs H locs ls h (lv_sub hl [2, 3, 4, 1, 0] rfl) hP hD hS K
  obtain ⟨q12, hq12, h⟩ := bd_some h
  refine L11_10 FU p0 r1.1 (0 : Int32) (0 : Int32) r1.2.1 r1.2.2 q12 H locs ls hq12 (lv_sub hl [3, 4, 2, 1, 0] rfl) hP hD hS (fun H locs ls hl hP hD hS => ?_)
  have h0 := Option.some.inj h
  subst h0
  exact W.vret hx hb hr (fun t ht hW => ⟨⟨(), rfl, trivial, QW_mk hP hK hD ht hW⟩, hS.F ht⟩) hS.2.2 dX5_findNearest_125
