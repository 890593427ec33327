theorem lk_out {x : Int32} (h0 : ¬ x = 0) (h4 : ¬ x = 4) (h5 : ¬ x = 5) : Op.lookupswitch.offset (#[(0, 35), (4, 62), (5, 82)] : Array (Int × Int)).toList 113 x.toInt = 113 := by
  show (if (0 : Int) = x.toInt then (35 : Int) else if (4 : Int) = x.toInt then 62 else if (5 : Int) = x.toInt then 82 else 113) = 113
  rw [if_neg (fun e => h0 (Int32.toInt_inj.mp (show x.toInt = (0 : Int32).toInt from e.symm))), if_neg (fun e => h4 (Int32.toInt_inj.mp (show x.toInt = (4 : Int32).toInt from e.symm))), if_neg (fun e => h5 (Int32.toInt_inj.mp (show x.toInt = (5 : Int32).toInt from e.symm)))]
noncomputable def fX4_passing (vxk : Int32) (vxrs : Int32) (fxrd : Nat → Int32) (vxbb : Int32) (fxej : Nat → Int32) (p0 : Int32) : Option (Int32) := bd (fX4_isRow p0) fun r1 => if r1 = 0 then (if p0 = (4 : Int32) then (bd (fX3_passing vxbb) fun r3 => some r3) else (bd (fX1_passing fxej vxk) fun r2 => some r2)) else (bd (fX2_passing vxrs fxrd p0) fun r5 => some r5)
set_option maxHeartbeats 4000000 in
set_option maxRecDepth 100000 in
theorem c_X4_passing (l : Launch) (dC : Nat → ClassId) (dI : Nat → Nat → Nat) (cy : ClassId) (ax axr axt axm axb axe axrd axej : Nat) (sz : Nat) (vxk : Int32) (vxrs : Int32) (fxrd : Nat → Int32) (vxbb : Int32) (fxej : Nat → Int32) (p0 : Int32) (res : Int32) (h : fX4_passing vxk vxrs fxrd vxbb fxej p0 = some res) : Met l yX4_passing wsX4_passing ({ frames := 5, cells := 0, slots := 0, locals := 114 }) (va_Pc [.ref ax, .int p0] (PW (dC, dI) cy sz [(ax, .inr (4, [.ref axr, .ref axt, .ref axm, .ref axb, .ref axe, .int vxk])), (axr, .inr (2, [.ref axrd, .int vxrs])), (axrd, .inl (cy, 8, .inl fxrd)), (axb, .inr (3, [.int vxbb])), (axe, .inr (1, [.ref axej])), (axej, .inl (cy, 6, .inl fxej))])) (va_Qi (fun (r : Int32) (_ : Unit) => r = res) (QW (dC, dI) cy (va_A [(ax, .inr (4, [.ref axr, .ref axt, .ref axm, .ref axb, .ref axe, .int vxk])), (axr, .inr (2, [.ref axrd, .int vxrs])), (axrd, .inl (cy, 8, .inl fxrd)), (axb, .inr (3, [.int vxbb])), (axe, .inr (1, [.ref axej])), (axej, .inl (cy, 6, .inl fxej))] sz) [(ax, .inr (4, [.ref axr, .ref axt, .ref axm, .ref axb, .ref axe, .int vxk])), (axr, .inr (2, [.ref axrd, .int vxrs])), (axrd, .inl (cy, 8, .inl fxrd)), (axb, .inr (3, [.int vxbb])), (axe, .inr (1, [.ref axej])), (axej, .inl (cy, 6, .inl fxej))]) (va_A [(ax, .inr (4, [.ref axr, .ref axt, .ref axm, .ref axb, .ref axe, .int vxk])), (axr, .inr (2, [.ref axrd, .int vxrs])), (axrd, .inl (cy, 8, .inl fxrd)), (axb, .inr (3, [.int vxbb])), (axe, .inr (1, [.ref axej])), (axej, .inl (cy, 6, .inl fxej))] sz)) 0 0 (va_A [(ax, .inr (4, [.ref axr, .ref axt, .ref axm, .ref axb, .ref axe, .int vxk])), (axr, .inr (2, [.ref axrd, .int vxrs])), (axrd, .inl (cy, 8, .inl fxrd)), (axb, .inr (3, [.int vxbb])), (axe, .inr (1, [.ref axej])), (axej, .inl (cy, 6, .inl fxej))] sz) := by
  refine Met.ofW (cc := cX4_passing) (maxL := 2) (ret := (some .int)) (by decide) rfl ?_
  intro p e s m args below meth c s₁ B hml hv
  obtain ⟨rfl, hsz, hP, hK, hD0, hN⟩ := hv
  have hx := B.exec
  have hb := B.bytes
  have hr := B.returns
  have hts := atoms_spec (ws := wsX4_passing) B.pre
  have hown : s.vm.findClass RX4 = some m.cls := findClass_of_methodNamed B.named
  have hlocks := B.notSynchronized
  subst hsz
  have hD := hD0.self (sz := s.heap.size)
  clear hD0
  generalize hAe : va_A [(ax, .inr (4, [.ref axr, .ref axt, .ref axm, .ref axb, .ref axe, .int vxk])), (axr, .inr (2, [.ref axrd, .int vxrs])), (axrd, .inl (cy, 8, .inl fxrd)), (axb, .inr (3, [.int vxbb])), (axe, .inr (1, [.ref axej])), (axej, .inl (cy, 6, .inl fxej))] s.heap.size = A at hD ⊢
  have hA : ∀ q : Nat, s.heap.size ≤ q → A q := fun q h => by rw [← hAe]; exact Or.inr h
  have hS : va_S A s.heap s.heap [] := va_S.rf
  have hl := lv_entry ([.ref ax, .int p0]) (n := 2) (Nat.le_of_ble_eq_true rfl)
  rw [lg_entry_eq]
  generalize (lg_sl ([.ref ax, .int p0]) ++ List.replicate (2 - (lg_sl ([.ref ax, .int p0])).length) Slot.unset).toArray = ls at hl ⊢
  replace hl : lv_has ls 2 [(0, .ref ax), (1, .int p0)] := hl
  replace hP : va_P (dC, dI) vwCl [(ax, .inr (4, [.ref axr, .ref axt, .ref axm, .ref axb, .ref axe, .int vxk])), (axr, .inr (2, [.ref axrd, .int vxrs])), (axrd, .inl (cy, 8, .inl fxrd)), (axb, .inr (3, [.int vxbb])), (axe, .inr (1, [.ref axej])), (axej, .inl (cy, 6, .inl fxej))] s.heap := hP
  obtain ⟨locs, hlocs⟩ : ∃ lc : List Loc, lc = [] := ⟨_, rfl⟩
  rw [← hlocs] at hS ⊢
  obtain ⟨H, hH⟩ : ∃ H : Heap, H = s.heap := ⟨_, rfl⟩
  have hP2 := hP; rw [← hH] at hP2
  have hS2 : va_S A s.heap H locs := by rw [hH]; exact hS
  suffices hgo : W p l e (headSpec wsX4_passing ({ frames := 5, cells := 0, slots := 0, locals := 114 })).room s m (([.ref ax, .int p0] : List Value).toArray) below meth c H locs 0 0 (MQ below (va_Qi (fun (r : Int32) (_ : Unit) => r = res) (QW (dC, dI) cy A [(ax, .inr (4, [.ref axr, .ref axt, .ref axm, .ref axb, .ref axe, .int vxk])), (axr, .inr (2, [.ref axrd, .int vxrs])), (axrd, .inl (cy, 8, .inl fxrd)), (axb, .inr (3, [.int vxbb])), (axe, .inr (1, [.ref axej])), (axej, .inl (cy, 6, .inl fxej))]) A) (([.ref ax, .int p0] : List Value).toArray) s 0 0 A) (F0 m 0 ls []) by rw [hH] at hgo; exact hgo
  replace hP := hP2
  replace hS := hS2
  clear hP2 hS2
  have hin_X4 : ∀ w ∈ wsX40, w ∈ wsX4_passing := by decide +kernel
  have hf_10 := hts (.fieldLink RX4 10 "FewLooks" "row" "LFewLooks$Row;") (by decide +kernel)
  have hf_29 := hts (.fieldLink RX4 29 "FewLooks" "table" "LFewLooks$Table;") (by decide +kernel)
  have hf_36 := hts (.fieldLink RX4 36 "FewLooks" "net" "LFewLooks$Net;") (by decide +kernel)
  have hf_40 := hts (.fieldLink RX4 40 "FewLooks" "drawn" "I") (by decide +kernel)
  unfold fX4_passing at h
  refine lv_iload_n hx hb dX4_passing_0 rfl (lv_at hl 1 rfl) ?_
  obtain ⟨r1, hr1, h⟩ := bd_some h
  have hFc := va_free (wc := []) hD hS hA [] rfl
  refine va_calli (va_runS (As := [.int p0]) (rest := []) ⟨hx, hb, hml, hown, hts⟩ (c_X4_isRow l dC dI cy  H.size  p0 r1 hr1) (va_cwS 1 hts gX4_passing_X4_isRow rfl rfl rfl (by decide +kernel) ⟨Nat.le_of_ble_eq_true rfl, Nat.le_of_ble_eq_true rfl⟩) ⟨PW_fb, PW_pre (hP.sub (ws' := []) [] rfl) hK (hD.sub [] (by decide) rfl) hN⟩ rfl rfl hl.1 rfl (lv_room (Nat.le_of_ble_eq_true rfl)) dX4_passing_1 ⟨Nat.zero_le _, Nat.zero_le _⟩) hS (fun q _ h => hFc q h) hFc (fun rz u t H locs ht hvm hw hB hz1 hk1 hS => ?_)
  obtain ⟨hP, hD⟩ := jn (wr := [(ax, .inr (4, [.ref axr, .ref axt, .ref axm, .ref axb, .ref axe, .int vxk])), (axr, .inr (2, [.ref axrd, .int vxrs])), (axrd, .inl (cy, 8, .inl fxrd)), (axb, .inr (3, [.int vxbb])), (axe, .inr (1, [.ref axej])), (axej, .inl (cy, 6, .inl fxej))]) (w1 := []) (ws' := [(ax, .inr (4, [.ref axr, .ref axt, .ref axm, .ref axb, .ref axe, .int vxk])), (axr, .inr (2, [.ref axrd, .int vxrs])), (axrd, .inl (cy, 8, .inl fxrd)), (axb, .inr (3, [.int vxbb])), (axe, .inr (1, [.ref axej])), (axej, .inl (cy, 6, .inl fxej))]) hP hD [] [0, 1, 2, 3, 4, 5] rfl rfl (by decide) (by decide) hk1 hFc hB ht [0, 1, 2, 3, 4, 5] rfl (by decide) rfl
  obtain ⟨hw, br1⟩ := hw
  replace hw := hw.symm
  subst hw
  clear hFc hB hk1 hz1 hvm
  refine lv_if_eq (tgt := 16) hx hb dX4_passing_4 (by decide) (fun c6 => ?_) (fun c6 => ?_)
  · rw [if_pos c6] at h
    refine lv_iload_n hx hb dX4_passing_16 rfl (lv_at hl 1 rfl) ?_
    refine lv_iconst (v := (4 : Int32)) hx hb dX4_passing_17 (by decide) ?_
    refine lv_icmp_ne (tgt := 31) hx hb dX4_passing_18 (by decide) (fun c4 => ?_) (fun c4 => ?_)
    · rw [if_neg c4] at h
      refine lv_aload_n hx hb dX4_passing_31 rfl (lv_at hl 0 rfl) ?_
      refine va_get (D := (dC, dI)) (ci := 4) (v := .ref axe) (C := RX4) (T := TX4) (N := 6) hx hb hts hin_X4 hown hK hP 0 rfl rfl 4 (by decide) (hf_36) (fun _ h9 => h9) rfl dX4_passing_32 ?_
      refine lv_aload_n hx hb dX4_passing_35 rfl (lv_at hl 0 rfl) ?_
      refine va_get (D := (dC, dI)) (ci := 4) (v := .int vxk) (C := RX4) (T := TX4) (N := 6) hx hb hts hin_X4 hown hK hP 0 rfl rfl 5 (by decide) (hf_40) (fun _ h9 => h9) rfl dX4_passing_36 ?_
      obtain ⟨r2, hr2, h⟩ := bd_some h
      have hFc := va_free (wc := [(axe, .inr (1, [.ref axej])), (axej, .inl (cy, 6, .inl fxej))]) hD hS hA [4, 5] rfl
      refine va_calli (va_runV (As := [.int vxk]) (rest := []) ⟨hx, hb, hml, hown, hts⟩ (c_X1_passing l dC dI cy axe axej H.size fxej vxk r2 hr2) (cwV 1 hts gX4_passing_X1_passing rfl rfl rfl (by decide +kernel) ⟨Nat.le_of_ble_eq_true rfl, Nat.le_of_ble_eq_true rfl⟩) ⟨PW_fb, va_recv hK hP (ci := 1) (q0 := 4) rfl rfl, PW_pre (hP.sub (ws' := [(axe, .inr (1, [.ref axej])), (axej, .inl (cy, 6, .inl fxej))]) [4, 5] rfl) hK (hD.sub [4, 5] (by decide) rfl) hN⟩ rfl rfl hl.1 rfl (lv_room (Nat.le_of_ble_eq_true rfl)) dX4_passing_39 ⟨Nat.zero_le _, Nat.zero_le _⟩) hS (fun q _ h => hFc q h) hFc (fun rz u t H locs ht hvm hw hB hz1 hk1 hS => ?_)
      obtain ⟨hP, hD⟩ := jn (wr := [(ax, .inr (4, [.ref axr, .ref axt, .ref axm, .ref axb, .ref axe, .int vxk])), (axr, .inr (2, [.ref axrd, .int vxrs])), (axrd, .inl (cy, 8, .inl fxrd)), (axb, .inr (3, [.int vxbb]))]) (w1 := [(axe, .inr (1, [.ref axej])), (axej, .inl (cy, 6, .inl fxej))]) (ws' := [(ax, .inr (4, [.ref axr, .ref axt, .ref axm, .ref axb, .ref axe, .int vxk])), (axr, .inr (2, [.ref axrd, .int vxrs])), (axrd, .inl (cy, 8, .inl fxrd)), (axb, .inr (3, [.int vxbb])), (axe, .inr (1, [.ref axej])), (axej, .inl (cy, 6, .inl fxej))]) hP hD [4, 5] [0, 1, 2, 3] rfl rfl (by decide) (by decide) hk1 hFc hB ht [0, 1, 2, 3, 4, 5] rfl (by decide) rfl
      replace hw := hw.symm
      subst hw
      clear hFc hB hk1 hz1 hvm
      have h0 := Option.some.inj h
      subst h0
      exact W.iret hx hb hr (fun t ht hW => ⟨⟨_, (), rfl, rfl, QW_mk hP hK hD ht hW⟩, hS.F ht⟩) hS.2.2 dX4_passing_42
    · rw [if_pos c4] at h
      refine lv_aload_n hx hb dX4_passing_21 rfl (lv_at hl 0 rfl) ?_
      refine va_get (D := (dC, dI)) (ci := 4) (v := .ref axb) (C := RX4) (T := TX4) (N := 6) hx hb hts hin_X4 hown hK hP 0 rfl rfl 3 (by decide) (hf_29) (fun _ h9 => h9) rfl dX4_passing_22 ?_
      obtain ⟨r3, hr3, h⟩ := bd_some h
      have hFc := va_free (wc := [(axb, .inr (3, [.int vxbb]))]) hD hS hA [3] rfl
      refine va_calli (va_runV (As := []) (rest := []) ⟨hx, hb, hml, hown, hts⟩ (c_X3_passing l dC dI cy axb H.size vxbb  r3 hr3) (cwV 0 hts gX4_passing_X3_passing rfl rfl rfl (by decide +kernel) ⟨Nat.le_of_ble_eq_true rfl, Nat.le_of_ble_eq_true rfl⟩) ⟨PW_fb, va_recv hK hP (ci := 3) (q0 := 3) rfl rfl, PW_pre (hP.sub (ws' := [(axb, .inr (3, [.int vxbb]))]) [3] rfl) hK (hD.sub [3] (by decide) rfl) hN⟩ rfl rfl hl.1 rfl (lv_room (Nat.le_of_ble_eq_true rfl)) dX4_passing_25 ⟨Nat.zero_le _, Nat.zero_le _⟩) hS (fun q _ h => hFc q h) hFc (fun rz u t H locs ht hvm hw hB hz1 hk1 hS => ?_)
      obtain ⟨hP, hD⟩ := jn (wr := [(ax, .inr (4, [.ref axr, .ref axt, .ref axm, .ref axb, .ref axe, .int vxk])), (axr, .inr (2, [.ref axrd, .int vxrs])), (axrd, .inl (cy, 8, .inl fxrd)), (axe, .inr (1, [.ref axej])), (axej, .inl (cy, 6, .inl fxej))]) (w1 := [(axb, .inr (3, [.int vxbb]))]) (ws' := [(ax, .inr (4, [.ref axr, .ref axt, .ref axm, .ref axb, .ref axe, .int vxk])), (axr, .inr (2, [.ref axrd, .int vxrs])), (axrd, .inl (cy, 8, .inl fxrd)), (axb, .inr (3, [.int vxbb])), (axe, .inr (1, [.ref axej])), (axej, .inl (cy, 6, .inl fxej))]) hP hD [3] [0, 1, 2, 4, 5] rfl rfl (by decide) (by decide) hk1 hFc hB ht [0, 1, 2, 5, 3, 4] rfl (by decide) rfl
      replace hw := hw.symm
      subst hw
      clear hFc hB hk1 hz1 hvm
      refine lv_goto (tgt := 42) hx hb dX4_passing_28 (by decide) ?_
      have h0 := Option.some.inj h
      subst h0
      exact W.iret hx hb hr (fun t ht hW => ⟨⟨_, (), rfl, rfl, QW_mk hP hK hD ht hW⟩, hS.F ht⟩) hS.2.2 dX4_passing_42
  · rw [if_neg c6] at h
    refine lv_aload_n hx hb dX4_passing_7 rfl (lv_at hl 0 rfl) ?_
    refine va_get (D := (dC, dI)) (ci := 4) (v := .ref axr) (C := RX4) (T := TX4) (N := 6) hx hb hts hin_X4 hown hK hP 0 rfl rfl 0 (by decide) (hf_10) (fun _ h9 => h9) rfl dX4_passing_8 ?_
    refine lv_iload_n hx hb dX4_passing_11 rfl (lv_at hl 1 rfl) ?_
    obtain ⟨r5, hr5, h⟩ := bd_some h
    have hFc := va_free (wc := [(axr, .inr (2, [.ref axrd, .int vxrs])), (axrd, .inl (cy, 8, .inl fxrd))]) hD hS hA [1, 2] rfl
    refine va_calli (va_runV (As := [.int p0]) (rest := []) ⟨hx, hb, hml, hown, hts⟩ (c_X2_passing l dC dI cy axr axrd H.size vxrs fxrd p0 r5 hr5) (cwV 1 hts gX4_passing_X2_passing rfl rfl rfl (by decide +kernel) ⟨Nat.le_of_ble_eq_true rfl, Nat.le_of_ble_eq_true rfl⟩) ⟨PW_fb, va_recv hK hP (ci := 2) (q0 := 1) rfl rfl, PW_pre (hP.sub (ws' := [(axr, .inr (2, [.ref axrd, .int vxrs])), (axrd, .inl (cy, 8, .inl fxrd))]) [1, 2] rfl) hK (hD.sub [1, 2] (by decide) rfl) hN⟩ rfl rfl hl.1 rfl (lv_room (Nat.le_of_ble_eq_true rfl)) dX4_passing_12 ⟨Nat.zero_le _, Nat.zero_le _⟩) hS (fun q _ h => hFc q h) hFc (fun rz u t H locs ht hvm hw hB hz1 hk1 hS => ?_)
    obtain ⟨hP, hD⟩ := jn (wr := [(ax, .inr (4, [.ref axr, .ref axt, .ref axm, .ref axb, .ref axe, .int vxk])), (axb, .inr (3, [.int vxbb])), (axe, .inr (1, [.ref axej])), (axej, .inl (cy, 6, .inl fxej))]) (w1 := [(axr, .inr (2, [.ref axrd, .int vxrs])), (axrd, .inl (cy, 8, .inl fxrd))]) (ws' := [(ax, .inr (4, [.ref axr, .ref axt, .ref axm, .ref axb, .ref axe, .int vxk])), (axr, .inr (2, [.ref axrd, .int vxrs])), (axrd, .inl (cy, 8, .inl fxrd)), (axb, .inr (3, [.int vxbb])), (axe, .inr (1, [.ref axej])), (axej, .inl (cy, 6, .inl fxej))]) hP hD [1, 2] [0, 3, 4, 5] rfl rfl (by decide) (by decide) hk1 hFc hB ht [0, 4, 5, 1, 2, 3] rfl (by decide) rfl
    replace hw := hw.symm
    subst hw
    clear hFc hB hk1 hz1 hvm
    have h0 := Option.some.inj h
    subst h0
    exact W.iret hx hb hr (fun t ht hW => ⟨⟨_, (), rfl, rfl, QW_mk hP hK hD ht hW⟩, hS.F ht⟩) hS.2.2 dX4_passing_15

noncomputable def fX4_looks (vxk : Int32) (vxrs : Int32) (p0 : Int32) : Option (Int32) := bd (fX4_isRow p0) fun r1 => if r1 = 0 then (if p0 = (4 : Int32) then (some (64 : Int32)) else (bd (fX1_sets vxk) fun r2 => some r2)) else (bd (fX2_looks vxrs p0) fun r4 => some r4)
set_option maxHeartbeats 4000000 in
set_option maxRecDepth 100000 in
theorem c_X4_looks (l : Launch) (dC : Nat → ClassId) (dI : Nat → Nat → Nat) (cy : ClassId) (ax axr axt axm axb axe axrd : Nat) (sz : Nat) (vxk : Int32) (vxrs : Int32) (p0 : Int32) (res : Int32) (h : fX4_looks vxk vxrs p0 = some res) : Met l yX4_looks wsX4_looks ({ frames := 2, cells := 0, slots := 0, locals := 42 }) (va_Pc [.ref ax, .int p0] (PW (dC, dI) cy sz [(ax, .inr (4, [.ref axr, .ref axt, .ref axm, .ref axb, .ref axe, .int vxk])), (axr, .inr (2, [.ref axrd, .int vxrs]))])) (va_Qi (fun (r : Int32) (_ : Unit) => r = res) (QW (dC, dI) cy (va_A [(ax, .inr (4, [.ref axr, .ref axt, .ref axm, .ref axb, .ref axe, .int vxk])), (axr, .inr (2, [.ref axrd, .int vxrs]))] sz) [(ax, .inr (4, [.ref axr, .ref axt, .ref axm, .ref axb, .ref axe, .int vxk])), (axr, .inr (2, [.ref axrd, .int vxrs]))]) (va_A [(ax, .inr (4, [.ref axr, .ref axt, .ref axm, .ref axb, .ref axe, .int vxk])), (axr, .inr (2, [.ref axrd, .int vxrs]))] sz)) 0 0 (va_A [(ax, .inr (4, [.ref axr, .ref axt, .ref axm, .ref axb, .ref axe, .int vxk])), (axr, .inr (2, [.ref axrd, .int vxrs]))] sz) := by
  refine Met.ofW (cc := cX4_looks) (maxL := 2) (ret := (some .int)) (by decide) rfl ?_
  intro p e s m args below meth c s₁ B hml hv
  obtain ⟨rfl, hsz, hP, hK, hD0, hN⟩ := hv
  have hx := B.exec
  have hb := B.bytes
  have hr := B.returns
  have hts := atoms_spec (ws := wsX4_looks) B.pre
  have hown : s.vm.findClass RX4 = some m.cls := findClass_of_methodNamed B.named
  have hlocks := B.notSynchronized
  subst hsz
  have hD := hD0.self (sz := s.heap.size)
  clear hD0
  generalize hAe : va_A [(ax, .inr (4, [.ref axr, .ref axt, .ref axm, .ref axb, .ref axe, .int vxk])), (axr, .inr (2, [.ref axrd, .int vxrs]))] s.heap.size = A at hD ⊢
  have hA : ∀ q : Nat, s.heap.size ≤ q → A q := fun q h => by rw [← hAe]; exact Or.inr h
  have hS : va_S A s.heap s.heap [] := va_S.rf
  have hl := lv_entry ([.ref ax, .int p0]) (n := 2) (Nat.le_of_ble_eq_true rfl)
  rw [lg_entry_eq]
  generalize (lg_sl ([.ref ax, .int p0]) ++ List.replicate (2 - (lg_sl ([.ref ax, .int p0])).length) Slot.unset).toArray = ls at hl ⊢
  replace hl : lv_has ls 2 [(0, .ref ax), (1, .int p0)] := hl
  replace hP : va_P (dC, dI) vwCl [(ax, .inr (4, [.ref axr, .ref axt, .ref axm, .ref axb, .ref axe, .int vxk])), (axr, .inr (2, [.ref axrd, .int vxrs]))] s.heap := hP
  obtain ⟨locs, hlocs⟩ : ∃ lc : List Loc, lc = [] := ⟨_, rfl⟩
  rw [← hlocs] at hS ⊢
  obtain ⟨H, hH⟩ : ∃ H : Heap, H = s.heap := ⟨_, rfl⟩
  have hP2 := hP; rw [← hH] at hP2
  have hS2 : va_S A s.heap H locs := by rw [hH]; exact hS
  suffices hgo : W p l e (headSpec wsX4_looks ({ frames := 2, cells := 0, slots := 0, locals := 42 })).room s m (([.ref ax, .int p0] : List Value).toArray) below meth c H locs 0 0 (MQ below (va_Qi (fun (r : Int32) (_ : Unit) => r = res) (QW (dC, dI) cy A [(ax, .inr (4, [.ref axr, .ref axt, .ref axm, .ref axb, .ref axe, .int vxk])), (axr, .inr (2, [.ref axrd, .int vxrs]))]) A) (([.ref ax, .int p0] : List Value).toArray) s 0 0 A) (F0 m 0 ls []) by rw [hH] at hgo; exact hgo
  replace hP := hP2
  replace hS := hS2
  clear hP2 hS2
  have hin_X4 : ∀ w ∈ wsX40, w ∈ wsX4_looks := by decide +kernel
  have hf_10 := hts (.fieldLink RX4 10 "FewLooks" "row" "LFewLooks$Row;") (by decide +kernel)
  have hf_40 := hts (.fieldLink RX4 40 "FewLooks" "drawn" "I") (by decide +kernel)
  unfold fX4_looks at h
  refine lv_iload_n hx hb dX4_looks_0 rfl (lv_at hl 1 rfl) ?_
  obtain ⟨r1, hr1, h⟩ := bd_some h
  have hFc := va_free (wc := []) hD hS hA [] rfl
  refine va_calli (va_runS (As := [.int p0]) (rest := []) ⟨hx, hb, hml, hown, hts⟩ (c_X4_isRow l dC dI cy  H.size  p0 r1 hr1) (va_cwS 1 hts gX4_looks_X4_isRow rfl rfl rfl (by decide +kernel) ⟨Nat.le_of_ble_eq_true rfl, Nat.le_of_ble_eq_true rfl⟩) ⟨PW_fb, PW_pre (hP.sub (ws' := []) [] rfl) hK (hD.sub [] (by decide) rfl) hN⟩ rfl rfl hl.1 rfl (lv_room (Nat.le_of_ble_eq_true rfl)) dX4_looks_1 ⟨Nat.zero_le _, Nat.zero_le _⟩) hS (fun q _ h => hFc q h) hFc (fun rz u t H locs ht hvm hw hB hz1 hk1 hS => ?_)
  obtain ⟨hP, hD⟩ := jn (wr := [(ax, .inr (4, [.ref axr, .ref axt, .ref axm, .ref axb, .ref axe, .int vxk])), (axr, .inr (2, [.ref axrd, .int vxrs]))]) (w1 := []) (ws' := [(ax, .inr (4, [.ref axr, .ref axt, .ref axm, .ref axb, .ref axe, .int vxk])), (axr, .inr (2, [.ref axrd, .int vxrs]))]) hP hD [] [0, 1] rfl rfl (by decide) (by decide) hk1 hFc hB ht [0, 1] rfl (by decide) rfl
  obtain ⟨hw, br1⟩ := hw
  replace hw := hw.symm
  subst hw
  clear hFc hB hk1 hz1 hvm
  refine lv_if_eq (tgt := 16) hx hb dX4_looks_4 (by decide) (fun c5 => ?_) (fun c5 => ?_)
  · rw [if_pos c5] at h
    refine lv_iload_n hx hb dX4_looks_16 rfl (lv_at hl 1 rfl) ?_
    refine lv_iconst (v := (4 : Int32)) hx hb dX4_looks_17 (by decide) ?_
    refine lv_icmp_ne (tgt := 26) hx hb dX4_looks_18 (by decide) (fun c3 => ?_) (fun c3 => ?_)
    · rw [if_neg c3] at h
      refine lv_aload_n hx hb dX4_looks_26 rfl (lv_at hl 0 rfl) ?_
      refine va_get (D := (dC, dI)) (ci := 4) (v := .int vxk) (C := RX4) (T := TX4) (N := 6) hx hb hts hin_X4 hown hK hP 0 rfl rfl 5 (by decide) (hf_40) (fun _ h9 => h9) rfl dX4_looks_27 ?_
      obtain ⟨r2, hr2, h⟩ := bd_some h
      have hFc := va_free (wc := []) hD hS hA [] rfl
      refine va_calli (va_runS (As := [.int vxk]) (rest := []) ⟨hx, hb, hml, hown, hts⟩ (c_X1_sets l dC dI cy  H.size  vxk r2 hr2) (va_cwS 1 hts gX4_looks_X1_sets rfl rfl rfl (by decide +kernel) ⟨Nat.le_of_ble_eq_true rfl, Nat.le_of_ble_eq_true rfl⟩) ⟨PW_fb, PW_pre (hP.sub (ws' := []) [] rfl) hK (hD.sub [] (by decide) rfl) hN⟩ rfl rfl hl.1 rfl (lv_room (Nat.le_of_ble_eq_true rfl)) dX4_looks_30 ⟨Nat.zero_le _, Nat.zero_le _⟩) hS (fun q _ h => hFc q h) hFc (fun rz u t H locs ht hvm hw hB hz1 hk1 hS => ?_)
      obtain ⟨hP, hD⟩ := jn (wr := [(ax, .inr (4, [.ref axr, .ref axt, .ref axm, .ref axb, .ref axe, .int vxk])), (axr, .inr (2, [.ref axrd, .int vxrs]))]) (w1 := []) (ws' := [(ax, .inr (4, [.ref axr, .ref axt, .ref axm, .ref axb, .ref axe, .int vxk])), (axr, .inr (2, [.ref axrd, .int vxrs]))]) hP hD [] [0, 1] rfl rfl (by decide) (by decide) hk1 hFc hB ht [0, 1] rfl (by decide) rfl
      replace hw := hw.symm
      subst hw
      clear hFc hB hk1 hz1 hvm
      have h0 := Option.some.inj h
      subst h0
      exact W.iret hx hb hr (fun t ht hW => ⟨⟨_, (), rfl, rfl, QW_mk hP hK hD ht hW⟩, hS.F ht⟩) hS.2.2 dX4_looks_33
    · rw [if_pos c3] at h
      refine lv_bipush (v := (64 : Int32)) hx hb dX4_looks_21 (by decide) ?_
      refine lv_goto (tgt := 33) hx hb dX4_looks_23 (by decide) ?_
      have h0 := Option.some.inj h
      subst h0
      exact W.iret hx hb hr (fun t ht hW => ⟨⟨_, (), rfl, rfl, QW_mk hP hK hD ht hW⟩, hS.F ht⟩) hS.2.2 dX4_looks_33
  · rw [if_neg c5] at h
    refine lv_aload_n hx hb dX4_looks_7 rfl (lv_at hl 0 rfl) ?_
    refine va_get (D := (dC, dI)) (ci := 4) (v := .ref axr) (C := RX4) (T := TX4) (N := 6) hx hb hts hin_X4 hown hK hP 0 rfl rfl 0 (by decide) (hf_10) (fun _ h9 => h9) rfl dX4_looks_8 ?_
    refine lv_iload_n hx hb dX4_looks_11 rfl (lv_at hl 1 rfl) ?_
    obtain ⟨r4, hr4, h⟩ := bd_some h
    have hFc := va_free (wc := [(axr, .inr (2, [.ref axrd, .int vxrs]))]) hD hS hA [1] rfl
    refine va_calli (va_runV (As := [.int p0]) (rest := []) ⟨hx, hb, hml, hown, hts⟩ (c_X2_looks l dC dI cy axr axrd H.size vxrs p0 r4 hr4) (cwV 1 hts gX4_looks_X2_looks rfl rfl rfl (by decide +kernel) ⟨Nat.le_of_ble_eq_true rfl, Nat.le_of_ble_eq_true rfl⟩) ⟨PW_fb, va_recv hK hP (ci := 2) (q0 := 1) rfl rfl, PW_pre (hP.sub (ws' := [(axr, .inr (2, [.ref axrd, .int vxrs]))]) [1] rfl) hK (hD.sub [1] (by decide) rfl) hN⟩ rfl rfl hl.1 rfl (lv_room (Nat.le_of_ble_eq_true rfl)) dX4_looks_12 ⟨Nat.zero_le _, Nat.zero_le _⟩) hS (fun q _ h => hFc q h) hFc (fun rz u t H locs ht hvm hw hB hz1 hk1 hS => ?_)
    obtain ⟨hP, hD⟩ := jn (wr := [(ax, .inr (4, [.ref axr, .ref axt, .ref axm, .ref axb, .ref axe, .int vxk]))]) (w1 := [(axr, .inr (2, [.ref axrd, .int vxrs]))]) (ws' := [(ax, .inr (4, [.ref axr, .ref axt, .ref axm, .ref axb, .ref axe, .int vxk])), (axr, .inr (2, [.ref axrd, .int vxrs]))]) hP hD [1] [0] rfl rfl (by decide) (by decide) hk1 hFc hB ht [0, 1] rfl (by decide) rfl
    replace hw := hw.symm
    subst hw
    clear hFc hB hk1 hz1 hvm
    have h0 := Option.some.inj h
    subst h0
    exact W.iret hx hb hr (fun t ht hW => ⟨⟨_, (), rfl, rfl, QW_mk hP hK hD ht hW⟩, hS.F ht⟩) hS.2.2 dX4_looks_15

noncomputable def fX4_lowestTerm_L13 (n : Nat) (l0 : Int32) (l1 : Int32) (l3 : Int32) (l4 : Int32) : Option ((Int32) ⊕ (Int32)) := match n with
  | 0 => none
  | n + 1 => if l4 ≤ (1 : Int32) then (some (.inr l4)) else (gnz l4 (if (l0 - l0 / l4 * l4) = 0 then (gnz l4 (if (l1 - l1 / l4 * l4) = 0 then (gnz l4 (some (.inl (l3 / l4)))) else (fX4_lowestTerm_L13 n l0 l1 l3 (l4 + (-1 : Int32))))) else (fX4_lowestTerm_L13 n l0 l1 l3 (l4 + (-1 : Int32)))))
theorem fX4_lowestTerm_L13_0 (l0 : Int32) (l1 : Int32) (l3 : Int32) (l4 : Int32) : fX4_lowestTerm_L13 0 l0 l1 l3 l4 = none := rfl
theorem fX4_lowestTerm_L13_s (n : Nat) (l0 : Int32) (l1 : Int32) (l3 : Int32) (l4 : Int32) : fX4_lowestTerm_L13 (n + 1) l0 l1 l3 l4 = if l4 ≤ (1 : Int32) then (some (.inr l4)) else (gnz l4 (if (l0 - l0 / l4 * l4) = 0 then (gnz l4 (if (l1 - l1 / l4 * l4) = 0 then (gnz l4 (some (.inl (l3 / l4)))) else (fX4_lowestTerm_L13 n l0 l1 l3 (l4 + (-1 : Int32))))) else (fX4_lowestTerm_L13 n l0 l1 l3 (l4 + (-1 : Int32))))) := rfl
noncomputable def fX4_lowestTerm  (p0 : Int32) (p1 : Int32) (p2 : Int32) : Option (Int32) := bd (if p2 = 0 then (some p0) else (some p1)) fun q1 => bs (fX4_lowestTerm_L13 FU p0 p1 q1 p1) fun q7 => some q1
set_option maxHeartbeats 4000000 in
set_option maxRecDepth 100000 in
theorem c_X4_lowestTerm (l : Launch) (dC : Nat → ClassId) (dI : Nat → Nat → Nat) (cy : ClassId)  (sz : Nat)  (p0 : Int32) (p1 : Int32) (p2 : Int32) (res : Int32) (h : fX4_lowestTerm p0 p1 p2 = some res) : Met l yX4_lowestTerm wsX4_lowestTerm ({ frames := 0, cells := 0, slots := 0, locals := 0 }) (va_Pc [.int p0, .int p1, .int p2] (PW (dC, dI) cy sz [])) (va_Qi (fun (r : Int32) (_ : Unit) => r = res) (QW (dC, dI) cy (va_A [] sz) []) (va_A [] sz)) 0 0 (va_A [] sz) := by
  refine Met.ofW (cc := cX4_lowestTerm) (maxL := 5) (ret := (some .int)) (by decide) rfl ?_
  intro p e s m args below meth c s₁ B hml hv
  obtain ⟨rfl, hsz, hP, hK, hD0, hN⟩ := hv
  have hx := B.exec
  have hb := B.bytes
  have hr := B.returns
  have hts := atoms_spec (ws := wsX4_lowestTerm) B.pre
  have hown : s.vm.findClass RX4 = some m.cls := findClass_of_methodNamed B.named
  have hlocks := B.notSynchronized
  subst hsz
  have hD := hD0.self (sz := s.heap.size)
  clear hD0
  generalize hAe : va_A [] s.heap.size = A at hD ⊢
  have hA : ∀ q : Nat, s.heap.size ≤ q → A q := fun q h => by rw [← hAe]; exact Or.inr h
  have hS : va_S A s.heap s.heap [] := va_S.rf
  have hl := lv_entry ([.int p0, .int p1, .int p2]) (n := 5) (Nat.le_of_ble_eq_true rfl)
  rw [lg_entry_eq]
  generalize (lg_sl ([.int p0, .int p1, .int p2]) ++ List.replicate (5 - (lg_sl ([.int p0, .int p1, .int p2])).length) Slot.unset).toArray = ls at hl ⊢
  replace hl : lv_has ls 5 [(0, .int p0), (1, .int p1), (2, .int p2)] := hl
  replace hP : va_P (dC, dI) vwCl [] s.heap := hP
  obtain ⟨locs, hlocs⟩ : ∃ lc : List Loc, lc = [] := ⟨_, rfl⟩
  rw [← hlocs] at hS ⊢
  obtain ⟨H, hH⟩ : ∃ H : Heap, H = s.heap := ⟨_, rfl⟩
  have hP2 := hP; rw [← hH] at hP2
  have hS2 : va_S A s.heap H locs := by rw [hH]; exact hS
  suffices hgo : W p l e (headSpec wsX4_lowestTerm ({ frames := 0, cells := 0, slots := 0, locals := 0 })).room s m (([.int p0, .int p1, .int p2] : List Value).toArray) below meth c H locs 0 0 (MQ below (va_Qi (fun (r : Int32) (_ : Unit) => r = res) (QW (dC, dI) cy A []) A) (([.int p0, .int p1, .int p2] : List Value).toArray) s 0 0 A) (F0 m 0 ls []) by rw [hH] at hgo; exact hgo
  replace hP := hP2
  replace hS := hS2
  clear hP2 hS2
  unfold fX4_lowestTerm at h
  refine lv_iload_n hx hb dX4_lowestTerm_0 rfl (lv_at hl 2 rfl) ?_
  obtain ⟨q1, hq1, h⟩ := bd_some h
  have Jq1 : ∀ (H : Heap) (locs : List Loc) (ls : Array Slot), lv_has ls 5 [(0, .int p0), (1, .int p1), (2, .int p2)] → va_P (dC, dI) vwCl [] H → va_D A [] → va_S A s.heap H locs → W p l e (headSpec wsX4_lowestTerm ({ frames := 0, cells := 0, slots := 0, locals := 0 })).room s m (([.int p0, .int p1, .int p2] : List Value).toArray) below meth c H locs 0 0 (MQ below (va_Qi (fun (r : Int32) (_ : Unit) => r = res) (QW (dC, dI) cy A []) A) (([.int p0, .int p1, .int p2] : List Value).toArray) s 0 0 A) (F0 m 9 ls [.int q1]) := by
    intro H locs ls hl hP hD hS
    refine lv_istore_n (lv' := [(3, .int q1), (0, .int p0), (1, .int p1), (2, .int p2)]) hx hb dX4_lowestTerm_9 rfl hl (by decide) rfl (fun ls hl => ?_)
    refine lv_iload_n hx hb dX4_lowestTerm_10 rfl (lv_at hl 2 rfl) ?_
    refine lv_istore (lv' := [(4, .int p1), (3, .int q1), (0, .int p0), (1, .int p1), (2, .int p2)]) hx hb dX4_lowestTerm_11 hl (by decide) rfl (fun ls hl => ?_)
    have L13_5 : ∀ (n : Nat) (l0 : Int32) (l1 : Int32) (l2 : Int32) (l3 : Int32) (l4 : Int32) (rs : ((Int32) ⊕ (Int32))) (H : Heap) (locs : List Loc) (ls : Array Slot), fX4_lowestTerm_L13 n l0 l1 l3 l4 = some rs → lv_has ls 5 [(0, .int l0), (1, .int l1), (2, .int l2), (3, .int l3), (4, .int l4)] → va_P (dC, dI) vwCl [] H → va_D A [] → va_S A s.heap H locs → (∀ q, rs = .inl q → q = res) → (∀ q, rs = .inr q → (∀ (H : Heap) (locs : List Loc) (ls : Array Slot), lv_has ls 5 [(0, .int l0), (1, .int l1), (2, .int l2), (3, .int l3), (4, .int q)] → va_P (dC, dI) vwCl [] H → va_D A [] → va_S A s.heap H locs → W p l e (headSpec wsX4_lowestTerm ({ frames := 0, cells := 0, slots := 0, locals := 0 })).room s m (([.int p0, .int p1, .int p2] : List Value).toArray) below meth c H locs 0 0 (MQ below (va_Qi (fun (r : Int32) (_ : Unit) => r = res) (QW (dC, dI) cy A []) A) (([.int p0, .int p1, .int p2] : List Value).toArray) s 0 0 A) (F0 m 44 ls []))) → W p l e (headSpec wsX4_lowestTerm ({ frames := 0, cells := 0, slots := 0, locals := 0 })).room s m (([.int p0, .int p1, .int p2] : List Value).toArray) below meth c H locs 0 0 (MQ below (va_Qi (fun (r : Int32) (_ : Unit) => r = res) (QW (dC, dI) cy A []) A) (([.int p0, .int p1, .int p2] : List Value).toArray) s 0 0 A) (F0 m 13 ls []) := by
      intro n
      induction n with
      | zero =>
        intro l0 l1 l2 l3 l4 rs H locs ls h
        rw [fX4_lowestTerm_L13_0] at h
        cases h
      | succ n ih =>
        intro l0 l1 l2 l3 l4 rs H locs ls h hl hP hD hS kr kx
        rw [fX4_lowestTerm_L13_s] at h
        refine lv_iload hx hb dX4_lowestTerm_13 (lv_at hl 4 rfl) ?_
        refine lv_iconst (v := (1 : Int32)) hx hb dX4_lowestTerm_15 (by decide) ?_
        refine lv_icmp_le (tgt := 44) hx hb dX4_lowestTerm_16 (by decide) (fun c5 => ?_) (fun c5 => ?_)
        · rw [if_pos c5] at h
          have h0 := Option.some.inj h
          subst h0
          exact kx _ rfl H locs ls (lv_sub hl [0, 1, 2, 3, 4] rfl) hP hD hS
        · rw [if_neg c5] at h
          refine lv_iload_n hx hb dX4_lowestTerm_19 rfl (lv_at hl 0 rfl) ?_
          refine lv_iload hx hb dX4_lowestTerm_20 (lv_at hl 4 rfl) ?_
          obtain ⟨hz, h⟩ := gnz_some h
          refine lv_irem hx hb dX4_lowestTerm_22 hz ?_
          refine lv_if_ne (tgt := 38) hx hb dX4_lowestTerm_23 (by decide) (fun c4 => ?_) (fun c4 => ?_)
          · rw [if_neg c4] at h
            refine lv_iinc (v := l4 + (-1 : Int32)) (lv' := [(4, .int (l4 + (-1 : Int32))), (0, .int l0), (1, .int l1), (2, .int l2), (3, .int l3)]) hx hb dX4_lowestTerm_38 hl (k := 4) rfl rfl (by decide) rfl (fun ls hl => ?_)
            refine lv_goto (tgt := 13) hx hb dX4_lowestTerm_41 (by decide) ?_
            exact ih l0 l1 l2 l3 (l4 + (-1 : Int32)) rs H locs ls h (lv_sub hl [1, 2, 3, 4, 0] rfl) hP hD hS kr kx
          · rw [if_pos c4] at h
            refine lv_iload_n hx hb dX4_lowestTerm_26 rfl (lv_at hl 1 rfl) ?_
            refine lv_iload hx hb dX4_lowestTerm_27 (lv_at hl 4 rfl) ?_
            obtain ⟨hz, h⟩ := gnz_some h
            refine lv_irem hx hb dX4_lowestTerm_29 hz ?_
            refine lv_if_ne (tgt := 38) hx hb dX4_lowestTerm_30 (by decide) (fun c3 => ?_) (fun c3 => ?_)
            · rw [if_neg c3] at h
              refine lv_iinc (v := l4 + (-1 : Int32)) (lv' := [(4, .int (l4 + (-1 : Int32))), (0, .int l0), (1, .int l1), (2, .int l2), (3, .int l3)]) hx hb dX4_lowestTerm_38 hl (k := 4) rfl rfl (by decide) rfl (fun ls hl => ?_)
              refine lv_goto (tgt := 13) hx hb dX4_lowestTerm_41 (by decide) ?_
              exact ih l0 l1 l2 l3 (l4 + (-1 : Int32)) rs H locs ls h (lv_sub hl [1, 2, 3, 4, 0] rfl) hP hD hS kr kx
            · rw [if_pos c3] at h
              refine lv_iload_n hx hb dX4_lowestTerm_33 rfl (lv_at hl 3 rfl) ?_
              refine lv_iload hx hb dX4_lowestTerm_34 (lv_at hl 4 rfl) ?_
              obtain ⟨hz, h⟩ := gnz_some h
              refine lv_idiv hx hb dX4_lowestTerm_36 hz ?_
              have h0 := Option.some.inj h
              subst h0
              have hk := kr _ rfl
              subst hk
              exact W.iret hx hb hr (fun t ht hW => ⟨⟨_, (), rfl, rfl, QW_mk hP hK hD ht hW⟩, hS.F ht⟩) hS.2.2 dX4_lowestTerm_37
    obtain ⟨rq7, hq7, kq7, xq7⟩ := bs_some h
    refine L13_5 FU p0 p1 p2 q1 p1 rq7 H locs ls hq7 (lv_sub hl [2, 3, 4, 1, 0] rfl) hP hD hS kq7 (fun q7 eq7 H locs ls hl hP hD hS => ?_)
    replace h := xq7 q7 eq7
    refine lv_iload_n hx hb dX4_lowestTerm_44 rfl (lv_at hl 3 rfl) ?_
    have h0 := Option.some.inj h
    subst h0
    exact W.iret hx hb hr (fun t ht hW => ⟨⟨_, (), rfl, rfl, QW_mk hP hK hD ht hW⟩, hS.F ht⟩) hS.2.2 dX4_lowestTerm_45
  replace h := hq1
  refine lv_if_ne (tgt := 8) hx hb dX4_lowestTerm_1 (by decide) (fun c2 => ?_) (fun c2 => ?_)
  · rw [if_neg c2] at h
    refine lv_iload_n hx hb dX4_lowestTerm_8 rfl (lv_at hl 1 rfl) ?_
    have h0 := Option.some.inj h
    subst h0
    exact Jq1 H locs ls (lv_sub hl [0, 1, 2] rfl) hP hD hS
  · rw [if_pos c2] at h
    refine lv_iload_n hx hb dX4_lowestTerm_4 rfl (lv_at hl 0 rfl) ?_
    refine lv_goto (tgt := 9) hx hb dX4_lowestTerm_5 (by decide) ?_
    have h0 := Option.some.inj h
    subst h0
    exact Jq1 H locs ls (lv_sub hl [0, 1, 2] rfl) hP hD hS

noncomputable def fX4_pass (vxk : Int32) (vxrs : Int32) (fxrd : Nat → Int32) (vxbb : Int32) (fxej : Nat → Int32) (p0 : Int32) (p1 : Int32) : Option (Int64) := bd (fX4_isSubject p0) fun r1 => if r1 = 0 then (some (-2 : Int64)) else (bd (fX4_within p1 (0 : Int32) (1 : Int32)) fun r2 => if r2 = 0 then (some (-2 : Int64)) else (bd (fX4_passing vxk vxrs fxrd vxbb fxej p0) fun r3 => bd (fX4_looks vxk vxrs p0) fun r4 => bd (fX4_lowestTerm r3 r4 p1) fun r5 => some r5.toInt64))
set_option maxHeartbeats 4000000 in
set_option maxRecDepth 100000 in
theorem c_X4_pass (l : Launch) (dC : Nat → ClassId) (dI : Nat → Nat → Nat) (cy : ClassId) (ax axr axt axm axb axe axrd axej : Nat) (sz : Nat) (vxk : Int32) (vxrs : Int32) (fxrd : Nat → Int32) (vxbb : Int32) (fxej : Nat → Int32) (p0 : Int32) (p1 : Int32) (res : Int64) (h : fX4_pass vxk vxrs fxrd vxbb fxej p0 p1 = some res) : Met l yX4_pass wsX4_pass ({ frames := 6, cells := 0, slots := 0, locals := 135 }) (va_Pc [.ref ax, .int p0, .int p1] (PW (dC, dI) cy sz [(ax, .inr (4, [.ref axr, .ref axt, .ref axm, .ref axb, .ref axe, .int vxk])), (axr, .inr (2, [.ref axrd, .int vxrs])), (axrd, .inl (cy, 8, .inl fxrd)), (axb, .inr (3, [.int vxbb])), (axe, .inr (1, [.ref axej])), (axej, .inl (cy, 6, .inl fxej))])) (va_Ql (fun (r : Int64) (_ : Unit) => r = res) (QW (dC, dI) cy (va_A [(ax, .inr (4, [.ref axr, .ref axt, .ref axm, .ref axb, .ref axe, .int vxk])), (axr, .inr (2, [.ref axrd, .int vxrs])), (axrd, .inl (cy, 8, .inl fxrd)), (axb, .inr (3, [.int vxbb])), (axe, .inr (1, [.ref axej])), (axej, .inl (cy, 6, .inl fxej))] sz) [(ax, .inr (4, [.ref axr, .ref axt, .ref axm, .ref axb, .ref axe, .int vxk])), (axr, .inr (2, [.ref axrd, .int vxrs])), (axrd, .inl (cy, 8, .inl fxrd)), (axb, .inr (3, [.int vxbb])), (axe, .inr (1, [.ref axej])), (axej, .inl (cy, 6, .inl fxej))]) (va_A [(ax, .inr (4, [.ref axr, .ref axt, .ref axm, .ref axb, .ref axe, .int vxk])), (axr, .inr (2, [.ref axrd, .int vxrs])), (axrd, .inl (cy, 8, .inl fxrd)), (axb, .inr (3, [.int vxbb])), (axe, .inr (1, [.ref axej])), (axej, .inl (cy, 6, .inl fxej))] sz)) 0 0 (va_A [(ax, .inr (4, [.ref axr, .ref axt, .ref axm, .ref axb, .ref axe, .int vxk])), (axr, .inr (2, [.ref axrd, .int vxrs])), (axrd, .inl (cy, 8, .inl fxrd)), (axb, .inr (3, [.int vxbb])), (axe, .inr (1, [.ref axej])), (axej, .inl (cy, 6, .inl fxej))] sz) := by
  refine Met.ofW (cc := cX4_pass) (maxL := 3) (ret := (some .long)) (by decide) rfl ?_
  intro p e s m args below meth c s₁ B hml hv
  obtain ⟨rfl, hsz, hP, hK, hD0, hN⟩ := hv
  have hx := B.exec
  have hb := B.bytes
  have hr := B.returns
  have hts := atoms_spec (ws := wsX4_pass) B.pre
  have hown : s.vm.findClass RX4 = some m.cls := findClass_of_methodNamed B.named
  have hlocks := B.notSynchronized
  subst hsz
  have hD := hD0.self (sz := s.heap.size)
  clear hD0
  generalize hAe : va_A [(ax, .inr (4, [.ref axr, .ref axt, .ref axm, .ref axb, .ref axe, .int vxk])), (axr, .inr (2, [.ref axrd, .int vxrs])), (axrd, .inl (cy, 8, .inl fxrd)), (axb, .inr (3, [.int vxbb])), (axe, .inr (1, [.ref axej])), (axej, .inl (cy, 6, .inl fxej))] s.heap.size = A at hD ⊢
  have hA : ∀ q : Nat, s.heap.size ≤ q → A q := fun q h => by rw [← hAe]; exact Or.inr h
  have hS : va_S A s.heap s.heap [] := va_S.rf
  have hl := lv_entry ([.ref ax, .int p0, .int p1]) (n := 3) (Nat.le_of_ble_eq_true rfl)
  rw [lg_entry_eq]
  generalize (lg_sl ([.ref ax, .int p0, .int p1]) ++ List.replicate (3 - (lg_sl ([.ref ax, .int p0, .int p1])).length) Slot.unset).toArray = ls at hl ⊢
  replace hl : lv_has ls 3 [(0, .ref ax), (1, .int p0), (2, .int p1)] := hl
  replace hP : va_P (dC, dI) vwCl [(ax, .inr (4, [.ref axr, .ref axt, .ref axm, .ref axb, .ref axe, .int vxk])), (axr, .inr (2, [.ref axrd, .int vxrs])), (axrd, .inl (cy, 8, .inl fxrd)), (axb, .inr (3, [.int vxbb])), (axe, .inr (1, [.ref axej])), (axej, .inl (cy, 6, .inl fxej))] s.heap := hP
  obtain ⟨locs, hlocs⟩ : ∃ lc : List Loc, lc = [] := ⟨_, rfl⟩
  rw [← hlocs] at hS ⊢
  obtain ⟨H, hH⟩ : ∃ H : Heap, H = s.heap := ⟨_, rfl⟩
  have hP2 := hP; rw [← hH] at hP2
  have hS2 : va_S A s.heap H locs := by rw [hH]; exact hS
  suffices hgo : W p l e (headSpec wsX4_pass ({ frames := 6, cells := 0, slots := 0, locals := 135 })).room s m (([.ref ax, .int p0, .int p1] : List Value).toArray) below meth c H locs 0 0 (MQ below (va_Ql (fun (r : Int64) (_ : Unit) => r = res) (QW (dC, dI) cy A [(ax, .inr (4, [.ref axr, .ref axt, .ref axm, .ref axb, .ref axe, .int vxk])), (axr, .inr (2, [.ref axrd, .int vxrs])), (axrd, .inl (cy, 8, .inl fxrd)), (axb, .inr (3, [.int vxbb])), (axe, .inr (1, [.ref axej])), (axej, .inl (cy, 6, .inl fxej))]) A) (([.ref ax, .int p0, .int p1] : List Value).toArray) s 0 0 A) (F0 m 0 ls []) by rw [hH] at hgo; exact hgo
  replace hP := hP2
  replace hS := hS2
  clear hP2 hS2
  unfold fX4_pass at h
  refine lv_iload_n hx hb dX4_pass_0 rfl (lv_at hl 1 rfl) ?_
  obtain ⟨r1, hr1, h⟩ := bd_some h
  have hFc := va_free (wc := []) hD hS hA [] rfl
  refine va_calli (va_runS (As := [.int p0]) (rest := []) ⟨hx, hb, hml, hown, hts⟩ (c_X4_isSubject l dC dI cy  H.size  p0 r1 hr1) (va_cwS 1 hts gX4_pass_X4_isSubject rfl rfl rfl (by decide +kernel) ⟨Nat.le_of_ble_eq_true rfl, Nat.le_of_ble_eq_true rfl⟩) ⟨PW_fb, PW_pre (hP.sub (ws' := []) [] rfl) hK (hD.sub [] (by decide) rfl) hN⟩ rfl rfl hl.1 rfl (lv_room (Nat.le_of_ble_eq_true rfl)) dX4_pass_1 ⟨Nat.zero_le _, Nat.zero_le _⟩) hS (fun q _ h => hFc q h) hFc (fun rz u t H locs ht hvm hw hB hz1 hk1 hS => ?_)
  obtain ⟨hP, hD⟩ := jn (wr := [(ax, .inr (4, [.ref axr, .ref axt, .ref axm, .ref axb, .ref axe, .int vxk])), (axr, .inr (2, [.ref axrd, .int vxrs])), (axrd, .inl (cy, 8, .inl fxrd)), (axb, .inr (3, [.int vxbb])), (axe, .inr (1, [.ref axej])), (axej, .inl (cy, 6, .inl fxej))]) (w1 := []) (ws' := [(ax, .inr (4, [.ref axr, .ref axt, .ref axm, .ref axb, .ref axe, .int vxk])), (axr, .inr (2, [.ref axrd, .int vxrs])), (axrd, .inl (cy, 8, .inl fxrd)), (axb, .inr (3, [.int vxbb])), (axe, .inr (1, [.ref axej])), (axej, .inl (cy, 6, .inl fxej))]) hP hD [] [0, 1, 2, 3, 4, 5] rfl rfl (by decide) (by decide) hk1 hFc hB ht [0, 1, 2, 3, 4, 5] rfl (by decide) rfl
  obtain ⟨hw, br1⟩ := hw
  replace hw := hw.symm
  subst hw
  clear hFc hB hk1 hz1 hvm
  refine lv_if_eq (tgt := 16) hx hb dX4_pass_4 (by decide) (fun c7 => ?_) (fun c7 => ?_)
  · rw [if_pos c7] at h
    refine lv_ldc2 (v := (-2 : Int64)) hx hb hown (hts (.constantLong RX4 121 (-2)) (by decide +kernel)) dX4_pass_16 ?_
    have h0 := Option.some.inj h
    subst h0
    exact W.lret hx hb hr (fun t ht hW => ⟨⟨_, (), rfl, rfl, QW_mk hP hK hD ht hW⟩, hS.F ht⟩) hS.2.2 dX4_pass_19
  · rw [if_neg c7] at h
    refine lv_iload_n hx hb dX4_pass_7 rfl (lv_at hl 2 rfl) ?_
    refine lv_iconst (v := (0 : Int32)) hx hb dX4_pass_8 (by decide) ?_
    refine lv_iconst (v := (1 : Int32)) hx hb dX4_pass_9 (by decide) ?_
    obtain ⟨r2, hr2, h⟩ := bd_some h
    have hFc := va_free (wc := []) hD hS hA [] rfl
    refine va_calli (va_runS (As := [.int p1, .int (0 : Int32), .int (1 : Int32)]) (rest := []) ⟨hx, hb, hml, hown, hts⟩ (c_X4_within l dC dI cy  H.size  p1 (0 : Int32) (1 : Int32) r2 hr2) (va_cwS 3 hts gX4_pass_X4_within rfl rfl rfl (by decide +kernel) ⟨Nat.le_of_ble_eq_true rfl, Nat.le_of_ble_eq_true rfl⟩) ⟨PW_fb, PW_pre (hP.sub (ws' := []) [] rfl) hK (hD.sub [] (by decide) rfl) hN⟩ rfl rfl hl.1 rfl (lv_room (Nat.le_of_ble_eq_true rfl)) dX4_pass_10 ⟨Nat.zero_le _, Nat.zero_le _⟩) hS (fun q _ h => hFc q h) hFc (fun rz u t H locs ht hvm hw hB hz1 hk1 hS => ?_)
    obtain ⟨hP, hD⟩ := jn (wr := [(ax, .inr (4, [.ref axr, .ref axt, .ref axm, .ref axb, .ref axe, .int vxk])), (axr, .inr (2, [.ref axrd, .int vxrs])), (axrd, .inl (cy, 8, .inl fxrd)), (axb, .inr (3, [.int vxbb])), (axe, .inr (1, [.ref axej])), (axej, .inl (cy, 6, .inl fxej))]) (w1 := []) (ws' := [(ax, .inr (4, [.ref axr, .ref axt, .ref axm, .ref axb, .ref axe, .int vxk])), (axr, .inr (2, [.ref axrd, .int vxrs])), (axrd, .inl (cy, 8, .inl fxrd)), (axb, .inr (3, [.int vxbb])), (axe, .inr (1, [.ref axej])), (axej, .inl (cy, 6, .inl fxej))]) hP hD [] [0, 1, 2, 3, 4, 5] rfl rfl (by decide) (by decide) hk1 hFc hB ht [0, 1, 2, 3, 4, 5] rfl (by decide) rfl
    obtain ⟨hw, br2⟩ := hw
    replace hw := hw.symm
    subst hw
    clear hFc hB hk1 hz1 hvm
    refine lv_if_ne (tgt := 20) hx hb dX4_pass_13 (by decide) (fun c6 => ?_) (fun c6 => ?_)
    · rw [if_neg c6] at h
      refine lv_aload_n hx hb dX4_pass_20 rfl (lv_at hl 0 rfl) ?_
      refine lv_iload_n hx hb dX4_pass_21 rfl (lv_at hl 1 rfl) ?_
      obtain ⟨r3, hr3, h⟩ := bd_some h
      have hFc := va_free (wc := [(ax, .inr (4, [.ref axr, .ref axt, .ref axm, .ref axb, .ref axe, .int vxk])), (axr, .inr (2, [.ref axrd, .int vxrs])), (axrd, .inl (cy, 8, .inl fxrd)), (axb, .inr (3, [.int vxbb])), (axe, .inr (1, [.ref axej])), (axej, .inl (cy, 6, .inl fxej))]) hD hS hA [0, 1, 2, 3, 4, 5] rfl
      refine va_calli (va_runV (As := [.int p0]) (rest := []) ⟨hx, hb, hml, hown, hts⟩ (c_X4_passing l dC dI cy ax axr axt axm axb axe axrd axej H.size vxk vxrs fxrd vxbb fxej p0 r3 hr3) (cwV 1 hts gX4_pass_X4_passing rfl rfl rfl (by decide +kernel) ⟨Nat.le_of_ble_eq_true rfl, Nat.le_of_ble_eq_true rfl⟩) ⟨PW_fb, va_recv hK hP (ci := 4) (q0 := 0) rfl rfl, PW_pre (hP.sub (ws' := [(ax, .inr (4, [.ref axr, .ref axt, .ref axm, .ref axb, .ref axe, .int vxk])), (axr, .inr (2, [.ref axrd, .int vxrs])), (axrd, .inl (cy, 8, .inl fxrd)), (axb, .inr (3, [.int vxbb])), (axe, .inr (1, [.ref axej])), (axej, .inl (cy, 6, .inl fxej))]) [0, 1, 2, 3, 4, 5] rfl) hK (hD.sub [0, 1, 2, 3, 4, 5] (by decide) rfl) hN⟩ rfl rfl hl.1 rfl (lv_room (Nat.le_of_ble_eq_true rfl)) dX4_pass_22 ⟨Nat.zero_le _, Nat.zero_le _⟩) hS (fun q _ h => hFc q h) hFc (fun rz u t H locs ht hvm hw hB hz1 hk1 hS => ?_)
      obtain ⟨hP, hD⟩ := jn (wr := []) (w1 := [(ax, .inr (4, [.ref axr, .ref axt, .ref axm, .ref axb, .ref axe, .int vxk])), (axr, .inr (2, [.ref axrd, .int vxrs])), (axrd, .inl (cy, 8, .inl fxrd)), (axb, .inr (3, [.int vxbb])), (axe, .inr (1, [.ref axej])), (axej, .inl (cy, 6, .inl fxej))]) (ws' := [(ax, .inr (4, [.ref axr, .ref axt, .ref axm, .ref axb, .ref axe, .int vxk])), (axr, .inr (2, [.ref axrd, .int vxrs])), (axrd, .inl (cy, 8, .inl fxrd)), (axb, .inr (3, [.int vxbb])), (axe, .inr (1, [.ref axej])), (axej, .inl (cy, 6, .inl fxej))]) hP hD [0, 1, 2, 3, 4, 5] [] rfl rfl (by decide) (by decide) hk1 hFc hB ht [0, 1, 2, 3, 4, 5] rfl (by decide) rfl
      replace hw := hw.symm
      subst hw
      clear hFc hB hk1 hz1 hvm
      refine lv_aload_n hx hb dX4_pass_25 rfl (lv_at hl 0 rfl) ?_
      refine lv_iload_n hx hb dX4_pass_26 rfl (lv_at hl 1 rfl) ?_
      obtain ⟨r4, hr4, h⟩ := bd_some h
      have hFc := va_free (wc := [(ax, .inr (4, [.ref axr, .ref axt, .ref axm, .ref axb, .ref axe, .int vxk])), (axr, .inr (2, [.ref axrd, .int vxrs]))]) hD hS hA [0, 1] rfl
      refine va_calli (va_runV (As := [.int p0]) (rest := [.int r3]) ⟨hx, hb, hml, hown, hts⟩ (c_X4_looks l dC dI cy ax axr axt axm axb axe axrd H.size vxk vxrs p0 r4 hr4) (cwV 1 hts gX4_pass_X4_looks rfl rfl rfl (by decide +kernel) ⟨Nat.le_of_ble_eq_true rfl, Nat.le_of_ble_eq_true rfl⟩) ⟨PW_fb, va_recv hK hP (ci := 4) (q0 := 0) rfl rfl, PW_pre (hP.sub (ws' := [(ax, .inr (4, [.ref axr, .ref axt, .ref axm, .ref axb, .ref axe, .int vxk])), (axr, .inr (2, [.ref axrd, .int vxrs]))]) [0, 1] rfl) hK (hD.sub [0, 1] (by decide) rfl) hN⟩ rfl rfl hl.1 rfl (lv_room (Nat.le_of_ble_eq_true rfl)) dX4_pass_27 ⟨Nat.zero_le _, Nat.zero_le _⟩) hS (fun q _ h => hFc q h) hFc (fun rz u t H locs ht hvm hw hB hz1 hk1 hS => ?_)
      obtain ⟨hP, hD⟩ := jn (wr := [(axrd, .inl (cy, 8, .inl fxrd)), (axb, .inr (3, [.int vxbb])), (axe, .inr (1, [.ref axej])), (axej, .inl (cy, 6, .inl fxej))]) (w1 := [(ax, .inr (4, [.ref axr, .ref axt, .ref axm, .ref axb, .ref axe, .int vxk])), (axr, .inr (2, [.ref axrd, .int vxrs]))]) (ws' := [(ax, .inr (4, [.ref axr, .ref axt, .ref axm, .ref axb, .ref axe, .int vxk])), (axr, .inr (2, [.ref axrd, .int vxrs])), (axrd, .inl (cy, 8, .inl fxrd)), (axb, .inr (3, [.int vxbb])), (axe, .inr (1, [.ref axej])), (axej, .inl (cy, 6, .inl fxej))]) hP hD [0, 1] [2, 3, 4, 5] rfl rfl (by decide) (by decide) hk1 hFc hB ht [4, 5, 0, 1, 2, 3] rfl (by decide) rfl
      replace hw := hw.symm
      subst hw
      clear hFc hB hk1 hz1 hvm
      refine lv_iload_n hx hb dX4_pass_30 rfl (lv_at hl 2 rfl) ?_
      obtain ⟨r5, hr5, h⟩ := bd_some h
      have hFc := va_free (wc := []) hD hS hA [] rfl
      refine va_calli (va_runS (As := [.int r3, .int r4, .int p1]) (rest := []) ⟨hx, hb, hml, hown, hts⟩ (c_X4_lowestTerm l dC dI cy  H.size  r3 r4 p1 r5 hr5) (va_cwS 3 hts gX4_pass_X4_lowestTerm rfl rfl rfl (by decide +kernel) ⟨Nat.le_of_ble_eq_true rfl, Nat.le_of_ble_eq_true rfl⟩) ⟨PW_fb, PW_pre (hP.sub (ws' := []) [] rfl) hK (hD.sub [] (by decide) rfl) hN⟩ rfl rfl hl.1 rfl (lv_room (Nat.le_of_ble_eq_true rfl)) dX4_pass_31 ⟨Nat.zero_le _, Nat.zero_le _⟩) hS (fun q _ h => hFc q h) hFc (fun rz u t H locs ht hvm hw hB hz1 hk1 hS => ?_)
      obtain ⟨hP, hD⟩ := jn (wr := [(ax, .inr (4, [.ref axr, .ref axt, .ref axm, .ref axb, .ref axe, .int vxk])), (axr, .inr (2, [.ref axrd, .int vxrs])), (axrd, .inl (cy, 8, .inl fxrd)), (axb, .inr (3, [.int vxbb])), (axe, .inr (1, [.ref axej])), (axej, .inl (cy, 6, .inl fxej))]) (w1 := []) (ws' := [(ax, .inr (4, [.ref axr, .ref axt, .ref axm, .ref axb, .ref axe, .int vxk])), (axr, .inr (2, [.ref axrd, .int vxrs])), (axrd, .inl (cy, 8, .inl fxrd)), (axb, .inr (3, [.int vxbb])), (axe, .inr (1, [.ref axej])), (axej, .inl (cy, 6, .inl fxej))]) hP hD [] [0, 1, 2, 3, 4, 5] rfl rfl (by decide) (by decide) hk1 hFc hB ht [0, 1, 2, 3, 4, 5] rfl (by decide) rfl
      replace hw := hw.symm
      subst hw
      clear hFc hB hk1 hz1 hvm
      refine lv_i2l (v := r5.toInt64) hx hb dX4_pass_34 rfl ?_
      have h0 := Option.some.inj h
      subst h0
      exact W.lret hx hb hr (fun t ht hW => ⟨⟨_, (), rfl, rfl, QW_mk hP hK hD ht hW⟩, hS.F ht⟩) hS.2.2 dX4_pass_35
    · rw [if_pos c6] at h
      refine lv_ldc2 (v := (-2 : Int64)) hx hb hown (hts (.constantLong RX4 121 (-2)) (by decide +kernel)) dX4_pass_16 ?_
      have h0 := Option.some.inj h
      subst h0
      exact W.lret hx hb hr (fun t ht hW => ⟨⟨_, (), rfl, rfl, QW_mk hP hK hD ht hW⟩, hS.F ht⟩) hS.2.2 dX4_pass_19

noncomputable def fX4_repeats_L54 (n : Nat) (l2 : Int32) (l3 : Int32) (l4 : Int64) (l6 : Int64) (l8 : Int64) (l10 : Int64) (l12 : Int32) : Option ((Int32) ⊕ (Int64 × Int64 × Int32)) := match n with
  | 0 => none
  | n + 1 => if (9 : Int32) < l12 then (some (.inr (l8, l10, l12))) else (if (lg_cmp (((l10 * l6) - (l8 * l4)) * l3.toInt64) ((l10 * l6) * l2.toInt64)) < 0 then (fX4_repeats_L54 n l2 l3 l4 l6 (l8 * l4) (l10 * l6) (l12 + (1 : Int32))) else (some (.inl l12)))
theorem fX4_repeats_L54_0 (l2 : Int32) (l3 : Int32) (l4 : Int64) (l6 : Int64) (l8 : Int64) (l10 : Int64) (l12 : Int32) : fX4_repeats_L54 0 l2 l3 l4 l6 l8 l10 l12 = none := rfl
theorem fX4_repeats_L54_s (n : Nat) (l2 : Int32) (l3 : Int32) (l4 : Int64) (l6 : Int64) (l8 : Int64) (l10 : Int64) (l12 : Int32) : fX4_repeats_L54 (n + 1) l2 l3 l4 l6 l8 l10 l12 = if (9 : Int32) < l12 then (some (.inr (l8, l10, l12))) else (if (lg_cmp (((l10 * l6) - (l8 * l4)) * l3.toInt64) ((l10 * l6) * l2.toInt64)) < 0 then (fX4_repeats_L54 n l2 l3 l4 l6 (l8 * l4) (l10 * l6) (l12 + (1 : Int32))) else (some (.inl l12))) := rfl
noncomputable def fX4_repeats (vxk : Int32) (vxrs : Int32) (fxrd : Nat → Int32) (vxbb : Int32) (fxej : Nat → Int32) (p0 : Int32) (p1 : Int32) (p2 : Int32) : Option (Int32) := bd (fX4_isSubject p0) fun r1 => if r1 = 0 then (some (-2 : Int32)) else (bd (fX4_within p2 (1 : Int32) (100 : Int32)) fun r2 => if r2 = 0 then (some (-2 : Int32)) else (bd (fX4_within p1 (1 : Int32) p2) fun r3 => if r3 = 0 then (some (-2 : Int32)) else (bd (fX4_passing vxk vxrs fxrd vxbb fxej p0) fun r4 => bd (fX4_looks vxk vxrs p0) fun r5 => bs (fX4_repeats_L54 FU p1 p2 r4.toInt64 r5.toInt64 (1 : Int64) (1 : Int64) (1 : Int32)) fun q9 => some (-1 : Int32))))
set_option maxHeartbeats 4000000 in
set_option maxRecDepth 100000 in
theorem c_X4_repeats (l : Launch) (dC : Nat → ClassId) (dI : Nat → Nat → Nat) (cy : ClassId) (ax axr axt axm axb axe axrd axej : Nat) (sz : Nat) (vxk : Int32) (vxrs : Int32) (fxrd : Nat → Int32) (vxbb : Int32) (fxej : Nat → Int32) (p0 : Int32) (p1 : Int32) (p2 : Int32) (res : Int32) (h : fX4_repeats vxk vxrs fxrd vxbb fxej p0 p1 p2 = some res) : Met l yX4_repeats wsX4_repeats ({ frames := 6, cells := 0, slots := 0, locals := 135 }) (va_Pc [.ref ax, .int p0, .int p1, .int p2] (PW (dC, dI) cy sz [(ax, .inr (4, [.ref axr, .ref axt, .ref axm, .ref axb, .ref axe, .int vxk])), (axr, .inr (2, [.ref axrd, .int vxrs])), (axrd, .inl (cy, 8, .inl fxrd)), (axb, .inr (3, [.int vxbb])), (axe, .inr (1, [.ref axej])), (axej, .inl (cy, 6, .inl fxej))])) (va_Qi (fun (r : Int32) (_ : Unit) => r = res) (QW (dC, dI) cy (va_A [(ax, .inr (4, [.ref axr, .ref axt, .ref axm, .ref axb, .ref axe, .int vxk])), (axr, .inr (2, [.ref axrd, .int vxrs])), (axrd, .inl (cy, 8, .inl fxrd)), (axb, .inr (3, [.int vxbb])), (axe, .inr (1, [.ref axej])), (axej, .inl (cy, 6, .inl fxej))] sz) [(ax, .inr (4, [.ref axr, .ref axt, .ref axm, .ref axb, .ref axe, .int vxk])), (axr, .inr (2, [.ref axrd, .int vxrs])), (axrd, .inl (cy, 8, .inl fxrd)), (axb, .inr (3, [.int vxbb])), (axe, .inr (1, [.ref axej])), (axej, .inl (cy, 6, .inl fxej))]) (va_A [(ax, .inr (4, [.ref axr, .ref axt, .ref axm, .ref axb, .ref axe, .int vxk])), (axr, .inr (2, [.ref axrd, .int vxrs])), (axrd, .inl (cy, 8, .inl fxrd)), (axb, .inr (3, [.int vxbb])), (axe, .inr (1, [.ref axej])), (axej, .inl (cy, 6, .inl fxej))] sz)) 0 0 (va_A [(ax, .inr (4, [.ref axr, .ref axt, .ref axm, .ref axb, .ref axe, .int vxk])), (axr, .inr (2, [.ref axrd, .int vxrs])), (axrd, .inl (cy, 8, .inl fxrd)), (axb, .inr (3, [.int vxbb])), (axe, .inr (1, [.ref axej])), (axej, .inl (cy, 6, .inl fxej))] sz) := by
  refine Met.ofW (cc := cX4_repeats) (maxL := 13) (ret := (some .int)) (by decide) rfl ?_
  intro p e s m args below meth c s₁ B hml hv
  obtain ⟨rfl, hsz, hP, hK, hD0, hN⟩ := hv
  have hx := B.exec
  have hb := B.bytes
  have hr := B.returns
  have hts := atoms_spec (ws := wsX4_repeats) B.pre
  have hown : s.vm.findClass RX4 = some m.cls := findClass_of_methodNamed B.named
  have hlocks := B.notSynchronized
  subst hsz
  have hD := hD0.self (sz := s.heap.size)
  clear hD0
  generalize hAe : va_A [(ax, .inr (4, [.ref axr, .ref axt, .ref axm, .ref axb, .ref axe, .int vxk])), (axr, .inr (2, [.ref axrd, .int vxrs])), (axrd, .inl (cy, 8, .inl fxrd)), (axb, .inr (3, [.int vxbb])), (axe, .inr (1, [.ref axej])), (axej, .inl (cy, 6, .inl fxej))] s.heap.size = A at hD ⊢
  have hA : ∀ q : Nat, s.heap.size ≤ q → A q := fun q h => by rw [← hAe]; exact Or.inr h
  have hS : va_S A s.heap s.heap [] := va_S.rf
  have hl := lv_entry ([.ref ax, .int p0, .int p1, .int p2]) (n := 13) (Nat.le_of_ble_eq_true rfl)
  rw [lg_entry_eq]
  generalize (lg_sl ([.ref ax, .int p0, .int p1, .int p2]) ++ List.replicate (13 - (lg_sl ([.ref ax, .int p0, .int p1, .int p2])).length) Slot.unset).toArray = ls at hl ⊢
  replace hl : lv_has ls 13 [(0, .ref ax), (1, .int p0), (2, .int p1), (3, .int p2)] := hl
  replace hP : va_P (dC, dI) vwCl [(ax, .inr (4, [.ref axr, .ref axt, .ref axm, .ref axb, .ref axe, .int vxk])), (axr, .inr (2, [.ref axrd, .int vxrs])), (axrd, .inl (cy, 8, .inl fxrd)), (axb, .inr (3, [.int vxbb])), (axe, .inr (1, [.ref axej])), (axej, .inl (cy, 6, .inl fxej))] s.heap := hP
  obtain ⟨locs, hlocs⟩ : ∃ lc : List Loc, lc = [] := ⟨_, rfl⟩
  rw [← hlocs] at hS ⊢
  obtain ⟨H, hH⟩ : ∃ H : Heap, H = s.heap := ⟨_, rfl⟩
  have hP2 := hP; rw [← hH] at hP2
  have hS2 : va_S A s.heap H locs := by rw [hH]; exact hS
  suffices hgo : W p l e (headSpec wsX4_repeats ({ frames := 6, cells := 0, slots := 0, locals := 135 })).room s m (([.ref ax, .int p0, .int p1, .int p2] : List Value).toArray) below meth c H locs 0 0 (MQ below (va_Qi (fun (r : Int32) (_ : Unit) => r = res) (QW (dC, dI) cy A [(ax, .inr (4, [.ref axr, .ref axt, .ref axm, .ref axb, .ref axe, .int vxk])), (axr, .inr (2, [.ref axrd, .int vxrs])), (axrd, .inl (cy, 8, .inl fxrd)), (axb, .inr (3, [.int vxbb])), (axe, .inr (1, [.ref axej])), (axej, .inl (cy, 6, .inl fxej))]) A) (([.ref ax, .int p0, .int p1, .int p2] : List Value).toArray) s 0 0 A) (F0 m 0 ls []) by rw [hH] at hgo; exact hgo
  replace hP := hP2
  replace hS := hS2
  clear hP2 hS2
  unfold fX4_repeats at h
  refine lv_iload_n hx hb dX4_repeats_0 rfl (lv_at hl 1 rfl) ?_
  obtain ⟨r1, hr1, h⟩ := bd_some h
  have hFc := va_free (wc := []) hD hS hA [] rfl
  refine va_calli (va_runS (As := [.int p0]) (rest := []) ⟨hx, hb, hml, hown, hts⟩ (c_X4_isSubject l dC dI cy  H.size  p0 r1 hr1) (va_cwS 1 hts gX4_repeats_X4_isSubject rfl rfl rfl (by decide +kernel) ⟨Nat.le_of_ble_eq_true rfl, Nat.le_of_ble_eq_true rfl⟩) ⟨PW_fb, PW_pre (hP.sub (ws' := []) [] rfl) hK (hD.sub [] (by decide) rfl) hN⟩ rfl rfl hl.1 rfl (lv_room (Nat.le_of_ble_eq_true rfl)) dX4_repeats_1 ⟨Nat.zero_le _, Nat.zero_le _⟩) hS (fun q _ h => hFc q h) hFc (fun rz u t H locs ht hvm hw hB hz1 hk1 hS => ?_)
  obtain ⟨hP, hD⟩ := jn (wr := [(ax, .inr (4, [.ref axr, .ref axt, .ref axm, .ref axb, .ref axe, .int vxk])), (axr, .inr (2, [.ref axrd, .int vxrs])), (axrd, .inl (cy, 8, .inl fxrd)), (axb, .inr (3, [.int vxbb])), (axe, .inr (1, [.ref axej])), (axej, .inl (cy, 6, .inl fxej))]) (w1 := []) (ws' := [(ax, .inr (4, [.ref axr, .ref axt, .ref axm, .ref axb, .ref axe, .int vxk])), (axr, .inr (2, [.ref axrd, .int vxrs])), (axrd, .inl (cy, 8, .inl fxrd)), (axb, .inr (3, [.int vxbb])), (axe, .inr (1, [.ref axej])), (axej, .inl (cy, 6, .inl fxej))]) hP hD [] [0, 1, 2, 3, 4, 5] rfl rfl (by decide) (by decide) hk1 hFc hB ht [0, 1, 2, 3, 4, 5] rfl (by decide) rfl
  obtain ⟨hw, br1⟩ := hw
  replace hw := hw.symm
  subst hw
  clear hFc hB hk1 hz1 hvm
  refine lv_if_eq (tgt := 26) hx hb dX4_repeats_4 (by decide) (fun c12 => ?_) (fun c12 => ?_)
  · rw [if_pos c12] at h
    refine lv_bipush (v := (-2 : Int32)) hx hb dX4_repeats_26 (by decide) ?_
    have h0 := Option.some.inj h
    subst h0
    exact W.iret hx hb hr (fun t ht hW => ⟨⟨_, (), rfl, rfl, QW_mk hP hK hD ht hW⟩, hS.F ht⟩) hS.2.2 dX4_repeats_28
  · rw [if_neg c12] at h
    refine lv_iload_n hx hb dX4_repeats_7 rfl (lv_at hl 3 rfl) ?_
    refine lv_iconst (v := (1 : Int32)) hx hb dX4_repeats_8 (by decide) ?_
    refine lv_bipush (v := (100 : Int32)) hx hb dX4_repeats_9 (by decide) ?_
    obtain ⟨r2, hr2, h⟩ := bd_some h
    have hFc := va_free (wc := []) hD hS hA [] rfl
    refine va_calli (va_runS (As := [.int p2, .int (1 : Int32), .int (100 : Int32)]) (rest := []) ⟨hx, hb, hml, hown, hts⟩ (c_X4_within l dC dI cy  H.size  p2 (1 : Int32) (100 : Int32) r2 hr2) (va_cwS 3 hts gX4_repeats_X4_within rfl rfl rfl (by decide +kernel) ⟨Nat.le_of_ble_eq_true rfl, Nat.le_of_ble_eq_true rfl⟩) ⟨PW_fb, PW_pre (hP.sub (ws' := []) [] rfl) hK (hD.sub [] (by decide) rfl) hN⟩ rfl rfl hl.1 rfl (lv_room (Nat.le_of_ble_eq_true rfl)) dX4_repeats_11 ⟨Nat.zero_le _, Nat.zero_le _⟩) hS (fun q _ h => hFc q h) hFc (fun rz u t H locs ht hvm hw hB hz1 hk1 hS => ?_)
    obtain ⟨hP, hD⟩ := jn (wr := [(ax, .inr (4, [.ref axr, .ref axt, .ref axm, .ref axb, .ref axe, .int vxk])), (axr, .inr (2, [.ref axrd, .int vxrs])), (axrd, .inl (cy, 8, .inl fxrd)), (axb, .inr (3, [.int vxbb])), (axe, .inr (1, [.ref axej])), (axej, .inl (cy, 6, .inl fxej))]) (w1 := []) (ws' := [(ax, .inr (4, [.ref axr, .ref axt, .ref axm, .ref axb, .ref axe, .int vxk])), (axr, .inr (2, [.ref axrd, .int vxrs])), (axrd, .inl (cy, 8, .inl fxrd)), (axb, .inr (3, [.int vxbb])), (axe, .inr (1, [.ref axej])), (axej, .inl (cy, 6, .inl fxej))]) hP hD [] [0, 1, 2, 3, 4, 5] rfl rfl (by decide) (by decide) hk1 hFc hB ht [0, 1, 2, 3, 4, 5] rfl (by decide) rfl
    obtain ⟨hw, br2⟩ := hw
    replace hw := hw.symm
    subst hw
    clear hFc hB hk1 hz1 hvm
    refine lv_if_eq (tgt := 26) hx hb dX4_repeats_14 (by decide) (fun c11 => ?_) (fun c11 => ?_)
    · rw [if_pos c11] at h
      refine lv_bipush (v := (-2 : Int32)) hx hb dX4_repeats_26 (by decide) ?_
      have h0 := Option.some.inj h
      subst h0
      exact W.iret hx hb hr (fun t ht hW => ⟨⟨_, (), rfl, rfl, QW_mk hP hK hD ht hW⟩, hS.F ht⟩) hS.2.2 dX4_repeats_28
    · rw [if_neg c11] at h
      refine lv_iload_n hx hb dX4_repeats_17 rfl (lv_at hl 2 rfl) ?_
      refine lv_iconst (v := (1 : Int32)) hx hb dX4_repeats_18 (by decide) ?_
      refine lv_iload_n hx hb dX4_repeats_19 rfl (lv_at hl 3 rfl) ?_
      obtain ⟨r3, hr3, h⟩ := bd_some h
      have hFc := va_free (wc := []) hD hS hA [] rfl
      refine va_calli (va_runS (As := [.int p1, .int (1 : Int32), .int p2]) (rest := []) ⟨hx, hb, hml, hown, hts⟩ (c_X4_within l dC dI cy  H.size  p1 (1 : Int32) p2 r3 hr3) (va_cwS 3 hts gX4_repeats_X4_within rfl rfl rfl (by decide +kernel) ⟨Nat.le_of_ble_eq_true rfl, Nat.le_of_ble_eq_true rfl⟩) ⟨PW_fb, PW_pre (hP.sub (ws' := []) [] rfl) hK (hD.sub [] (by decide) rfl) hN⟩ rfl rfl hl.1 rfl (lv_room (Nat.le_of_ble_eq_true rfl)) dX4_repeats_20 ⟨Nat.zero_le _, Nat.zero_le _⟩) hS (fun q _ h => hFc q h) hFc (fun rz u t H locs ht hvm hw hB hz1 hk1 hS => ?_)
      obtain ⟨hP, hD⟩ := jn (wr := [(ax, .inr (4, [.ref axr, .ref axt, .ref axm, .ref axb, .ref axe, .int vxk])), (axr, .inr (2, [.ref axrd, .int vxrs])), (axrd, .inl (cy, 8, .inl fxrd)), (axb, .inr (3, [.int vxbb])), (axe, .inr (1, [.ref axej])), (axej, .inl (cy, 6, .inl fxej))]) (w1 := []) (ws' := [(ax, .inr (4, [.ref axr, .ref axt, .ref axm, .ref axb, .ref axe, .int vxk])), (axr, .inr (2, [.ref axrd, .int vxrs])), (axrd, .inl (cy, 8, .inl fxrd)), (axb, .inr (3, [.int vxbb])), (axe, .inr (1, [.ref axej])), (axej, .inl (cy, 6, .inl fxej))]) hP hD [] [0, 1, 2, 3, 4, 5] rfl rfl (by decide) (by decide) hk1 hFc hB ht [0, 1, 2, 3, 4, 5] rfl (by decide) rfl
      obtain ⟨hw, br3⟩ := hw
      replace hw := hw.symm
      subst hw
      clear hFc hB hk1 hz1 hvm
      refine lv_if_ne (tgt := 29) hx hb dX4_repeats_23 (by decide) (fun c10 => ?_) (fun c10 => ?_)
      · rw [if_neg c10] at h
        refine lv_aload_n hx hb dX4_repeats_29 rfl (lv_at hl 0 rfl) ?_
        refine lv_iload_n hx hb dX4_repeats_30 rfl (lv_at hl 1 rfl) ?_
        obtain ⟨r4, hr4, h⟩ := bd_some h
        have hFc := va_free (wc := [(ax, .inr (4, [.ref axr, .ref axt, .ref axm, .ref axb, .ref axe, .int vxk])), (axr, .inr (2, [.ref axrd, .int vxrs])), (axrd, .inl (cy, 8, .inl fxrd)), (axb, .inr (3, [.int vxbb])), (axe, .inr (1, [.ref axej])), (axej, .inl (cy, 6, .inl fxej))]) hD hS hA [0, 1, 2, 3, 4, 5] rfl
        refine va_calli (va_runV (As := [.int p0]) (rest := []) ⟨hx, hb, hml, hown, hts⟩ (c_X4_passing l dC dI cy ax axr axt axm axb axe axrd axej H.size vxk vxrs fxrd vxbb fxej p0 r4 hr4) (cwV 1 hts gX4_repeats_X4_passing rfl rfl rfl (by decide +kernel) ⟨Nat.le_of_ble_eq_true rfl, Nat.le_of_ble_eq_true rfl⟩) ⟨PW_fb, va_recv hK hP (ci := 4) (q0 := 0) rfl rfl, PW_pre (hP.sub (ws' := [(ax, .inr (4, [.ref axr, .ref axt, .ref axm, .ref axb, .ref axe, .int vxk])), (axr, .inr (2, [.ref axrd, .int vxrs])), (axrd, .inl (cy, 8, .inl fxrd)), (axb, .inr (3, [.int vxbb])), (axe, .inr (1, [.ref axej])), (axej, .inl (cy, 6, .inl fxej))]) [0, 1, 2, 3, 4, 5] rfl) hK (hD.sub [0, 1, 2, 3, 4, 5] (by decide) rfl) hN⟩ rfl rfl hl.1 rfl (lv_room (Nat.le_of_ble_eq_true rfl)) dX4_repeats_31 ⟨Nat.zero_le _, Nat.zero_le _⟩) hS (fun q _ h => hFc q h) hFc (fun rz u t H locs ht hvm hw hB hz1 hk1 hS => ?_)
        obtain ⟨hP, hD⟩ := jn (wr := []) (w1 := [(ax, .inr (4, [.ref axr, .ref axt, .ref axm, .ref axb, .ref axe, .int vxk])), (axr, .inr (2, [.ref axrd, .int vxrs])), (axrd, .inl (cy, 8, .inl fxrd)), (axb, .inr (3, [.int vxbb])), (axe, .inr (1, [.ref axej])), (axej, .inl (cy, 6, .inl fxej))]) (ws' := [(ax, .inr (4, [.ref axr, .ref axt, .ref axm, .ref axb, .ref axe, .int vxk])), (axr, .inr (2, [.ref axrd, .int vxrs])), (axrd, .inl (cy, 8, .inl fxrd)), (axb, .inr (3, [.int vxbb])), (axe, .inr (1, [.ref axej])), (axej, .inl (cy, 6, .inl fxej))]) hP hD [0, 1, 2, 3, 4, 5] [] rfl rfl (by decide) (by decide) hk1 hFc hB ht [0, 1, 2, 3, 4, 5] rfl (by decide) rfl
        replace hw := hw.symm
        subst hw
        clear hFc hB hk1 hz1 hvm
        refine lv_i2l (v := r4.toInt64) hx hb dX4_repeats_34 rfl ?_
        refine lv_lstore (lv' := [(4, .long r4.toInt64), (0, .ref ax), (1, .int p0), (2, .int p1), (3, .int p2)]) hx hb dX4_repeats_35 hl (by decide) rfl (fun ls hl => ?_)
        refine lv_aload_n hx hb dX4_repeats_37 rfl (lv_at hl 1 rfl) ?_
        refine lv_iload_n hx hb dX4_repeats_38 rfl (lv_at hl 2 rfl) ?_
        obtain ⟨r5, hr5, h⟩ := bd_some h
        have hFc := va_free (wc := [(ax, .inr (4, [.ref axr, .ref axt, .ref axm, .ref axb, .ref axe, .int vxk])), (axr, .inr (2, [.ref axrd, .int vxrs]))]) hD hS hA [0, 1] rfl
        refine va_calli (va_runV (As := [.int p0]) (rest := []) ⟨hx, hb, hml, hown, hts⟩ (c_X4_looks l dC dI cy ax axr axt axm axb axe axrd H.size vxk vxrs p0 r5 hr5) (cwV 1 hts gX4_repeats_X4_looks rfl rfl rfl (by decide +kernel) ⟨Nat.le_of_ble_eq_true rfl, Nat.le_of_ble_eq_true rfl⟩) ⟨PW_fb, va_recv hK hP (ci := 4) (q0 := 0) rfl rfl, PW_pre (hP.sub (ws' := [(ax, .inr (4, [.ref axr, .ref axt, .ref axm, .ref axb, .ref axe, .int vxk])), (axr, .inr (2, [.ref axrd, .int vxrs]))]) [0, 1] rfl) hK (hD.sub [0, 1] (by decide) rfl) hN⟩ rfl rfl hl.1 rfl (lv_room (Nat.le_of_ble_eq_true rfl)) dX4_repeats_39 ⟨Nat.zero_le _, Nat.zero_le _⟩) hS (fun q _ h => hFc q h) hFc (fun rz u t H locs ht hvm hw hB hz1 hk1 hS => ?_)
        obtain ⟨hP, hD⟩ := jn (wr := [(axrd, .inl (cy, 8, .inl fxrd)), (axb, .inr (3, [.int vxbb])), (axe, .inr (1, [.ref axej])), (axej, .inl (cy, 6, .inl fxej))]) (w1 := [(ax, .inr (4, [.ref axr, .ref axt, .ref axm, .ref axb, .ref axe, .int vxk])), (axr, .inr (2, [.ref axrd, .int vxrs]))]) (ws' := [(ax, .inr (4, [.ref axr, .ref axt, .ref axm, .ref axb, .ref axe, .int vxk])), (axr, .inr (2, [.ref axrd, .int vxrs])), (axrd, .inl (cy, 8, .inl fxrd)), (axb, .inr (3, [.int vxbb])), (axe, .inr (1, [.ref axej])), (axej, .inl (cy, 6, .inl fxej))]) hP hD [0, 1] [2, 3, 4, 5] rfl rfl (by decide) (by decide) hk1 hFc hB ht [4, 5, 0, 1, 2, 3] rfl (by decide) rfl
        replace hw := hw.symm
        subst hw
        clear hFc hB hk1 hz1 hvm
        refine lv_i2l (v := r5.toInt64) hx hb dX4_repeats_42 rfl ?_
        refine lv_lstore (lv' := [(6, .long r5.toInt64), (4, .long r4.toInt64), (0, .ref ax), (1, .int p0), (2, .int p1), (3, .int p2)]) hx hb dX4_repeats_43 hl (by decide) rfl (fun ls hl => ?_)
        refine lv_lconst (v := (1 : Int64)) hx hb dX4_repeats_45 (by decide) ?_
        refine lv_lstore (lv' := [(8, .long (1 : Int64)), (6, .long r5.toInt64), (4, .long r4.toInt64), (0, .ref ax), (1, .int p0), (2, .int p1), (3, .int p2)]) hx hb dX4_repeats_46 hl (by decide) rfl (fun ls hl => ?_)
        refine lv_lconst (v := (1 : Int64)) hx hb dX4_repeats_48 (by decide) ?_
        refine lv_lstore (lv' := [(10, .long (1 : Int64)), (8, .long (1 : Int64)), (6, .long r5.toInt64), (4, .long r4.toInt64), (0, .ref ax), (1, .int p0), (2, .int p1), (3, .int p2)]) hx hb dX4_repeats_49 hl (by decide) rfl (fun ls hl => ?_)
        refine lv_iconst (v := (1 : Int32)) hx hb dX4_repeats_51 (by decide) ?_
        refine lv_istore (lv' := [(12, .int (1 : Int32)), (10, .long (1 : Int64)), (8, .long (1 : Int64)), (6, .long r5.toInt64), (4, .long r4.toInt64), (0, .ref ax), (1, .int p0), (2, .int p1), (3, .int p2)]) hx hb dX4_repeats_52 hl (by decide) rfl (fun ls hl => ?_)
        have L54_7 : ∀ (n : Nat) (l1 : Int32) (l2 : Int32) (l3 : Int32) (l4 : Int64) (l6 : Int64) (l8 : Int64) (l10 : Int64) (l12 : Int32) (rs : ((Int32) ⊕ (Int64 × Int64 × Int32))) (H : Heap) (locs : List Loc) (ls : Array Slot), fX4_repeats_L54 n l2 l3 l4 l6 l8 l10 l12 = some rs → lv_has ls 13 [(0, .ref ax), (1, .int l1), (2, .int l2), (3, .int l3), (4, .long l4), (6, .long l6), (8, .long l8), (10, .long l10), (12, .int l12)] → va_P (dC, dI) vwCl [(ax, .inr (4, [.ref axr, .ref axt, .ref axm, .ref axb, .ref axe, .int vxk])), (axr, .inr (2, [.ref axrd, .int vxrs])), (axrd, .inl (cy, 8, .inl fxrd)), (axb, .inr (3, [.int vxbb])), (axe, .inr (1, [.ref axej])), (axej, .inl (cy, 6, .inl fxej))] H → va_D A [(ax, .inr (4, [.ref axr, .ref axt, .ref axm, .ref axb, .ref axe, .int vxk])), (axr, .inr (2, [.ref axrd, .int vxrs])), (axrd, .inl (cy, 8, .inl fxrd)), (axb, .inr (3, [.int vxbb])), (axe, .inr (1, [.ref axej])), (axej, .inl (cy, 6, .inl fxej))] → va_S A s.heap H locs → (∀ q, rs = .inl q → q = res) → (∀ q, rs = .inr q → (∀ (H : Heap) (locs : List Loc) (ls : Array Slot), lv_has ls 13 [(0, .ref ax), (1, .int l1), (2, .int l2), (3, .int l3), (4, .long l4), (6, .long l6), (8, .long q.1), (10, .long q.2.1), (12, .int q.2.2)] → va_P (dC, dI) vwCl [(ax, .inr (4, [.ref axr, .ref axt, .ref axm, .ref axb, .ref axe, .int vxk])), (axr, .inr (2, [.ref axrd, .int vxrs])), (axrd, .inl (cy, 8, .inl fxrd)), (axb, .inr (3, [.int vxbb])), (axe, .inr (1, [.ref axej])), (axej, .inl (cy, 6, .inl fxej))] H → va_D A [(ax, .inr (4, [.ref axr, .ref axt, .ref axm, .ref axb, .ref axe, .int vxk])), (axr, .inr (2, [.ref axrd, .int vxrs])), (axrd, .inl (cy, 8, .inl fxrd)), (axb, .inr (3, [.int vxbb])), (axe, .inr (1, [.ref axej])), (axej, .inl (cy, 6, .inl fxej))] → va_S A s.heap H locs → W p l e (headSpec wsX4_repeats ({ frames := 6, cells := 0, slots := 0, locals := 135 })).room s m (([.ref ax, .int p0, .int p1, .int p2] : List Value).toArray) below meth c H locs 0 0 (MQ below (va_Qi (fun (r : Int32) (_ : Unit) => r = res) (QW (dC, dI) cy A [(ax, .inr (4, [.ref axr, .ref axt, .ref axm, .ref axb, .ref axe, .int vxk])), (axr, .inr (2, [.ref axrd, .int vxrs])), (axrd, .inl (cy, 8, .inl fxrd)), (axb, .inr (3, [.int vxbb])), (axe, .inr (1, [.ref axej])), (axej, .inl (cy, 6, .inl fxej))]) A) (([.ref ax, .int p0, .int p1, .int p2] : List Value).toArray) s 0 0 A) (F0 m 101 ls []))) → W p l e (headSpec wsX4_repeats ({ frames := 6, cells := 0, slots := 0, locals := 135 })).room s m (([.ref ax, .int p0, .int p1, .int p2] : List Value).toArray) below meth c H locs 0 0 (MQ below (va_Qi (fun (r : Int32) (_ : Unit) => r = res) (QW (dC, dI) cy A [(ax, .inr (4, [.ref axr, .ref axt, .ref axm, .ref axb, .ref axe, .int vxk])), (axr, .inr (2, [.ref axrd, .int vxrs])), (axrd, .inl (cy, 8, .inl fxrd)), (axb, .inr (3, [.int vxbb])), (axe, .inr (1, [.ref axej])), (axej, .inl (cy, 6, .inl fxej))]) A) (([.ref ax, .int p0, .int p1, .int p2] : List Value).toArray) s 0 0 A) (F0 m 54 ls []) := by
          intro n
          induction n with
          | zero =>
            intro l1 l2 l3 l4 l6 l8 l10 l12 rs H locs ls h
            rw [fX4_repeats_L54_0] at h
            cases h
          | succ n ih =>
            intro l1 l2 l3 l4 l6 l8 l10 l12 rs H locs ls h hl hP hD hS kr kx
            rw [fX4_repeats_L54_s] at h
            refine lv_iload hx hb dX4_repeats_54 (lv_at hl 8 rfl) ?_
            refine lv_bipush (v := (9 : Int32)) hx hb dX4_repeats_56 (by decide) ?_
            refine lv_icmp_gt (tgt := 101) hx hb dX4_repeats_58 (by decide) (fun c7 => ?_) (fun c7 => ?_)
            · rw [if_pos c7] at h
              have h0 := Option.some.inj h
              subst h0
              exact kx _ rfl H locs ls (lv_sub hl [0, 1, 2, 3, 4, 5, 6, 7, 8] rfl) hP hD hS
            · rw [if_neg c7] at h
              refine lv_lload hx hb dX4_repeats_61 (lv_at hl 6 rfl) ?_
              refine lv_lload hx hb dX4_repeats_63 (lv_at hl 4 rfl) ?_
              refine lv_lmul hx hb dX4_repeats_65 ?_
              refine lv_lstore (lv' := [(8, .long (l8 * l4)), (0, .ref ax), (1, .int l1), (2, .int l2), (3, .int l3), (4, .long l4), (6, .long l6), (10, .long l10), (12, .int l12)]) hx hb dX4_repeats_66 hl (by decide) rfl (fun ls hl => ?_)
              refine lv_lload hx hb dX4_repeats_68 (lv_at hl 7 rfl) ?_
              refine lv_lload hx hb dX4_repeats_70 (lv_at hl 6 rfl) ?_
              refine lv_lmul hx hb dX4_repeats_72 ?_
              refine lv_lstore (lv' := [(10, .long (l10 * l6)), (8, .long (l8 * l4)), (0, .ref ax), (1, .int l1), (2, .int l2), (3, .int l3), (4, .long l4), (6, .long l6), (12, .int l12)]) hx hb dX4_repeats_73 hl (by decide) rfl (fun ls hl => ?_)
              refine lv_lload hx hb dX4_repeats_75 (lv_at hl 0 rfl) ?_
              refine lv_lload hx hb dX4_repeats_77 (lv_at hl 1 rfl) ?_
              refine lv_lsub hx hb dX4_repeats_79 ?_
              refine lv_iload_n hx hb dX4_repeats_80 rfl (lv_at hl 5 rfl) ?_
              refine lv_i2l (v := l3.toInt64) hx hb dX4_repeats_81 rfl ?_
              refine lv_lmul hx hb dX4_repeats_82 ?_
              refine lv_lload hx hb dX4_repeats_83 (lv_at hl 0 rfl) ?_
              refine lv_iload_n hx hb dX4_repeats_85 rfl (lv_at hl 4 rfl) ?_
              refine lv_i2l (v := l2.toInt64) hx hb dX4_repeats_86 rfl ?_
              refine lv_lmul hx hb dX4_repeats_87 ?_
              refine W.lcmp hx hb dX4_repeats_88 ?_
              refine lv_if_lt (tgt := 95) hx hb dX4_repeats_89 (by decide) (fun c6 => ?_) (fun c6 => ?_)
              · rw [if_pos c6] at h
                refine lv_iinc (v := l12 + (1 : Int32)) (lv' := [(12, .int (l12 + (1 : Int32))), (10, .long (l10 * l6)), (8, .long (l8 * l4)), (0, .ref ax), (1, .int l1), (2, .int l2), (3, .int l3), (4, .long l4), (6, .long l6)]) hx hb dX4_repeats_95 hl (k := 8) rfl rfl (by decide) rfl (fun ls hl => ?_)
                refine lv_goto (tgt := 54) hx hb dX4_repeats_98 (by decide) ?_
                exact ih l1 l2 l3 l4 l6 (l8 * l4) (l10 * l6) (l12 + (1 : Int32)) rs H locs ls h (lv_sub hl [3, 4, 5, 6, 7, 8, 2, 1, 0] rfl) hP hD hS kr kx
              · rw [if_neg c6] at h
                refine lv_iload hx hb dX4_repeats_92 (lv_at hl 8 rfl) ?_
                have h0 := Option.some.inj h
                subst h0
                have hk := kr _ rfl
                subst hk
                exact W.iret hx hb hr (fun t ht hW => ⟨⟨_, (), rfl, rfl, QW_mk hP hK hD ht hW⟩, hS.F ht⟩) hS.2.2 dX4_repeats_94
        obtain ⟨rq9, hq9, kq9, xq9⟩ := bs_some h
        refine L54_7 FU p0 p1 p2 r4.toInt64 r5.toInt64 (1 : Int64) (1 : Int64) (1 : Int32) rq9 H locs ls hq9 (lv_sub hl [5, 6, 7, 8, 4, 3, 2, 1, 0] rfl) hP hD hS kq9 (fun q9 eq9 H locs ls hl hP hD hS => ?_)
        replace h := xq9 q9 eq9
        refine lv_iconst (v := (-1 : Int32)) hx hb dX4_repeats_101 (by decide) ?_
        have h0 := Option.some.inj h
        subst h0
        exact W.iret hx hb hr (fun t ht hW => ⟨⟨_, (), rfl, rfl, QW_mk hP hK hD ht hW⟩, hS.F ht⟩) hS.2.2 dX4_repeats_102
      · rw [if_pos c10] at h
        refine lv_bipush (v := (-2 : Int32)) hx hb dX4_repeats_26 (by decide) ?_
        have h0 := Option.some.inj h
        subst h0
        exact W.iret hx hb hr (fun t ht hW => ⟨⟨_, (), rfl, rfl, QW_mk hP hK hD ht hW⟩, hS.F ht⟩) hS.2.2 dX4_repeats_28

noncomputable def fX4_worstCode_L8 (n : Nat) (l1 : Int32) (l2 : Int32) (l3 : Int32) (l4 : Int32) (l5 : Int32) (vxrs : Int32) (vxts : Int32) (fxtd : Nat → Int32) (vxmns : Int32) (fxmnd : Nat → Int32) (vxmgs : Int32) (fxmgd : Nat → Int32) (fxmc : Nat → Int32) : Option (Int32 × Int32 × Int32 × Int32 × (Nat → Int32) × Int32 × (Nat → Int32) × Int32 × (Nat → Int32) × (Nat → Int32)) := match n with
  | 0 => none
  | n + 1 => if ((1 : Int32) <<< (vxrs &&& 31)) ≤ l5 then (some (l3, l4, l5, vxts, fxtd, vxmns, fxmnd, vxmgs, fxmgd, fxmc)) else (bd (fX2_spell vxts fxtd l5 vxrs) fun r1 => bd (fX2_passing r1.1 r1.2 l1) fun r2 => if r2 ≤ l4 then (fX4_worstCode_L8 n l1 l2 l3 l4 (l5 + (1 : Int32)) vxrs r1.1 r1.2 vxmns fxmnd vxmgs fxmgd fxmc) else (bd (fX0_seek vxmns fxmnd vxmgs fxmgd fxmc r1.1 r1.2 l1) fun r3 => if r3.1 < l2 then (fX4_worstCode_L8 n l1 l2 l3 l4 (l5 + (1 : Int32)) vxrs r1.1 r1.2 r3.2.1 r3.2.2.1 r3.2.2.2.1 r3.2.2.2.2.1 r3.2.2.2.2.2) else (fX4_worstCode_L8 n l1 l2 l5 r2 (l5 + (1 : Int32)) vxrs r1.1 r1.2 r3.2.1 r3.2.2.1 r3.2.2.2.1 r3.2.2.2.2.1 r3.2.2.2.2.2)))
theorem fX4_worstCode_L8_0 (l1 : Int32) (l2 : Int32) (l3 : Int32) (l4 : Int32) (l5 : Int32) (vxrs : Int32) (vxts : Int32) (fxtd : Nat → Int32) (vxmns : Int32) (fxmnd : Nat → Int32) (vxmgs : Int32) (fxmgd : Nat → Int32) (fxmc : Nat → Int32) : fX4_worstCode_L8 0 l1 l2 l3 l4 l5 vxrs vxts fxtd vxmns fxmnd vxmgs fxmgd fxmc = none := rfl
theorem fX4_worstCode_L8_s (n : Nat) (l1 : Int32) (l2 : Int32) (l3 : Int32) (l4 : Int32) (l5 : Int32) (vxrs : Int32) (vxts : Int32) (fxtd : Nat → Int32) (vxmns : Int32) (fxmnd : Nat → Int32) (vxmgs : Int32) (fxmgd : Nat → Int32) (fxmc : Nat → Int32) : fX4_worstCode_L8 (n + 1) l1 l2 l3 l4 l5 vxrs vxts fxtd vxmns fxmnd vxmgs fxmgd fxmc = if ((1 : Int32) <<< (vxrs &&& 31)) ≤ l5 then (some (l3, l4, l5, vxts, fxtd, vxmns, fxmnd, vxmgs, fxmgd, fxmc)) else (bd (fX2_spell vxts fxtd l5 vxrs) fun r1 => bd (fX2_passing r1.1 r1.2 l1) fun r2 => if r2 ≤ l4 then (fX4_worstCode_L8 n l1 l2 l3 l4 (l5 + (1 : Int32)) vxrs r1.1 r1.2 vxmns fxmnd vxmgs fxmgd fxmc) else (bd (fX0_seek vxmns fxmnd vxmgs fxmgd fxmc r1.1 r1.2 l1) fun r3 => if r3.1 < l2 then (fX4_worstCode_L8 n l1 l2 l3 l4 (l5 + (1 : Int32)) vxrs r1.1 r1.2 r3.2.1 r3.2.2.1 r3.2.2.2.1 r3.2.2.2.2.1 r3.2.2.2.2.2) else (fX4_worstCode_L8 n l1 l2 l5 r2 (l5 + (1 : Int32)) vxrs r1.1 r1.2 r3.2.1 r3.2.2.1 r3.2.2.2.1 r3.2.2.2.2.1 r3.2.2.2.2.2))) := rfl
noncomputable def fX4_worstCode (vxrs : Int32) (vxts : Int32) (fxtd : Nat → Int32) (vxmns : Int32) (fxmnd : Nat → Int32) (vxmgs : Int32) (fxmgd : Nat → Int32) (fxmc : Nat → Int32) (p0 : Int32) (p1 : Int32) : Option (Int32 × Int32 × (Nat → Int32) × Int32 × (Nat → Int32) × Int32 × (Nat → Int32) × (Nat → Int32)) := bd (fX4_worstCode_L8 FU p0 p1 (-1 : Int32) (-1 : Int32) (0 : Int32) vxrs vxts fxtd vxmns fxmnd vxmgs fxmgd fxmc) fun q8 => some (q8.1, q8.2.2.2.1, q8.2.2.2.2.1, q8.2.2.2.2.2.1, q8.2.2.2.2.2.2.1, q8.2.2.2.2.2.2.2.1, q8.2.2.2.2.2.2.2.2.1, q8.2.2.2.2.2.2.2.2.2)
set_option maxHeartbeats 4000000 in
set_option maxRecDepth 100000 in
theorem c_X4_worstCode (l : Launch) (dC : Nat → ClassId) (dI : Nat → Nat → Nat) (cy : ClassId) (ax axr axt axm axb axe axrd axtd axmn axmg axmc axmnd axmgd : Nat) (sz : Nat) (vxk : Int32) (vxrs : Int32) (vxts : Int32) (fxtd : Nat → Int32) (vxmns : Int32) (fxmnd : Nat → Int32) (vxmgs : Int32) (fxmgd : Nat → Int32) (fxmc : Nat → Int32) (p0 : Int32) (p1 : Int32) (res : Int32 × Int32 × (Nat → Int32) × Int32 × (Nat → Int32) × Int32 × (Nat → Int32) × (Nat → Int32)) (h : fX4_worstCode vxrs vxts fxtd vxmns fxmnd vxmgs fxmgd fxmc p0 p1 = some res) : Met l yX4_worstCode wsX4_worstCode ({ frames := 4, cells := 0, slots := 0, locals := 97 }) (va_Pc [.ref ax, .int p0, .int p1] (PW (dC, dI) cy sz [(ax, .inr (4, [.ref axr, .ref axt, .ref axm, .ref axb, .ref axe, .int vxk])), (axr, .inr (2, [.ref axrd, .int vxrs])), (axt, .inr (2, [.ref axtd, .int vxts])), (axtd, .inl (cy, 8, .inl fxtd)), (axm, .inr (0, [.ref axmn, .ref axmg, .ref axmc])), (axmn, .inr (2, [.ref axmnd, .int vxmns])), (axmnd, .inl (cy, 8, .inl fxmnd)), (axmg, .inr (2, [.ref axmgd, .int vxmgs])), (axmgd, .inl (cy, 8, .inl fxmgd)), (axmc, .inl (cy, 36, .inl fxmc))])) (va_Qi (fun (r : Int32) (_ : Unit) => r = res.1) (QW (dC, dI) cy (va_A [(ax, .inr (4, [.ref axr, .ref axt, .ref axm, .ref axb, .ref axe, .int vxk])), (axr, .inr (2, [.ref axrd, .int vxrs])), (axt, .inr (2, [.ref axtd, .int vxts])), (axtd, .inl (cy, 8, .inl fxtd)), (axm, .inr (0, [.ref axmn, .ref axmg, .ref axmc])), (axmn, .inr (2, [.ref axmnd, .int vxmns])), (axmnd, .inl (cy, 8, .inl fxmnd)), (axmg, .inr (2, [.ref axmgd, .int vxmgs])), (axmgd, .inl (cy, 8, .inl fxmgd)), (axmc, .inl (cy, 36, .inl fxmc))] sz) [(ax, .inr (4, [.ref axr, .ref axt, .ref axm, .ref axb, .ref axe, .int vxk])), (axr, .inr (2, [.ref axrd, .int vxrs])), (axt, .inr (2, [.ref axtd, .int res.2.1])), (axtd, .inl (cy, 8, .inl res.2.2.1)), (axm, .inr (0, [.ref axmn, .ref axmg, .ref axmc])), (axmn, .inr (2, [.ref axmnd, .int res.2.2.2.1])), (axmnd, .inl (cy, 8, .inl res.2.2.2.2.1)), (axmg, .inr (2, [.ref axmgd, .int res.2.2.2.2.2.1])), (axmgd, .inl (cy, 8, .inl res.2.2.2.2.2.2.1)), (axmc, .inl (cy, 36, .inl res.2.2.2.2.2.2.2))]) (va_A [(ax, .inr (4, [.ref axr, .ref axt, .ref axm, .ref axb, .ref axe, .int vxk])), (axr, .inr (2, [.ref axrd, .int vxrs])), (axt, .inr (2, [.ref axtd, .int vxts])), (axtd, .inl (cy, 8, .inl fxtd)), (axm, .inr (0, [.ref axmn, .ref axmg, .ref axmc])), (axmn, .inr (2, [.ref axmnd, .int vxmns])), (axmnd, .inl (cy, 8, .inl fxmnd)), (axmg, .inr (2, [.ref axmgd, .int vxmgs])), (axmgd, .inl (cy, 8, .inl fxmgd)), (axmc, .inl (cy, 36, .inl fxmc))] sz)) 0 0 (va_A [(ax, .inr (4, [.ref axr, .ref axt, .ref axm, .ref axb, .ref axe, .int vxk])), (axr, .inr (2, [.ref axrd, .int vxrs])), (axt, .inr (2, [.ref axtd, .int vxts])), (axtd, .inl (cy, 8, .inl fxtd)), (axm, .inr (0, [.ref axmn, .ref axmg, .ref axmc])), (axmn, .inr (2, [.ref axmnd, .int vxmns])), (axmnd, .inl (cy, 8, .inl fxmnd)), (axmg, .inr (2, [.ref axmgd, .int vxmgs])), (axmgd, .inl (cy, 8, .inl fxmgd)), (axmc, .inl (cy, 36, .inl fxmc))] sz) := by
  refine Met.ofW (cc := cX4_worstCode) (maxL := 7) (ret := (some .int)) (by decide) rfl ?_
  intro p e s m args below meth c s₁ B hml hv
  obtain ⟨rfl, hsz, hP, hK, hD0, hN⟩ := hv
  have hx := B.exec
  have hb := B.bytes
  have hr := B.returns
  have hts := atoms_spec (ws := wsX4_worstCode) B.pre
  have hown : s.vm.findClass RX4 = some m.cls := findClass_of_methodNamed B.named
  have hlocks := B.notSynchronized
  subst hsz
  have hD := hD0.self (sz := s.heap.size)
  clear hD0
  generalize hAe : va_A [(ax, .inr (4, [.ref axr, .ref axt, .ref axm, .ref axb, .ref axe, .int vxk])), (axr, .inr (2, [.ref axrd, .int vxrs])), (axt, .inr (2, [.ref axtd, .int vxts])), (axtd, .inl (cy, 8, .inl fxtd)), (axm, .inr (0, [.ref axmn, .ref axmg, .ref axmc])), (axmn, .inr (2, [.ref axmnd, .int vxmns])), (axmnd, .inl (cy, 8, .inl fxmnd)), (axmg, .inr (2, [.ref axmgd, .int vxmgs])), (axmgd, .inl (cy, 8, .inl fxmgd)), (axmc, .inl (cy, 36, .inl fxmc))] s.heap.size = A at hD ⊢
  have hA : ∀ q : Nat, s.heap.size ≤ q → A q := fun q h => by rw [← hAe]; exact Or.inr h
  have hS : va_S A s.heap s.heap [] := va_S.rf
  have hl := lv_entry ([.ref ax, .int p0, .int p1]) (n := 7) (Nat.le_of_ble_eq_true rfl)
  rw [lg_entry_eq]
  generalize (lg_sl ([.ref ax, .int p0, .int p1]) ++ List.replicate (7 - (lg_sl ([.ref ax, .int p0, .int p1])).length) Slot.unset).toArray = ls at hl ⊢
  replace hl : lv_has ls 7 [(0, .ref ax), (1, .int p0), (2, .int p1)] := hl
  replace hP : va_P (dC, dI) vwCl [(ax, .inr (4, [.ref axr, .ref axt, .ref axm, .ref axb, .ref axe, .int vxk])), (axr, .inr (2, [.ref axrd, .int vxrs])), (axt, .inr (2, [.ref axtd, .int vxts])), (axtd, .inl (cy, 8, .inl fxtd)), (axm, .inr (0, [.ref axmn, .ref axmg, .ref axmc])), (axmn, .inr (2, [.ref axmnd, .int vxmns])), (axmnd, .inl (cy, 8, .inl fxmnd)), (axmg, .inr (2, [.ref axmgd, .int vxmgs])), (axmgd, .inl (cy, 8, .inl fxmgd)), (axmc, .inl (cy, 36, .inl fxmc))] s.heap := hP
  obtain ⟨locs, hlocs⟩ : ∃ lc : List Loc, lc = [] := ⟨_, rfl⟩
  rw [← hlocs] at hS ⊢
  obtain ⟨H, hH⟩ : ∃ H : Heap, H = s.heap := ⟨_, rfl⟩
  have hP2 := hP; rw [← hH] at hP2
  have hS2 : va_S A s.heap H locs := by rw [hH]; exact hS
  suffices hgo : W p l e (headSpec wsX4_worstCode ({ frames := 4, cells := 0, slots := 0, locals := 97 })).room s m (([.ref ax, .int p0, .int p1] : List Value).toArray) below meth c H locs 0 0 (MQ below (va_Qi (fun (r : Int32) (_ : Unit) => r = res.1) (QW (dC, dI) cy A [(ax, .inr (4, [.ref axr, .ref axt, .ref axm, .ref axb, .ref axe, .int vxk])), (axr, .inr (2, [.ref axrd, .int vxrs])), (axt, .inr (2, [.ref axtd, .int res.2.1])), (axtd, .inl (cy, 8, .inl res.2.2.1)), (axm, .inr (0, [.ref axmn, .ref axmg, .ref axmc])), (axmn, .inr (2, [.ref axmnd, .int res.2.2.2.1])), (axmnd, .inl (cy, 8, .inl res.2.2.2.2.1)), (axmg, .inr (2, [.ref axmgd, .int res.2.2.2.2.2.1])), (axmgd, .inl (cy, 8, .inl res.2.2.2.2.2.2.1)), (axmc, .inl (cy, 36, .inl res.2.2.2.2.2.2.2))]) A) (([.ref ax, .int p0, .int p1] : List Value).toArray) s 0 0 A) (F0 m 0 ls []) by rw [hH] at hgo; exact hgo
  replace hP := hP2
  replace hS := hS2
  clear hP2 hS2
  have hin_X2 : ∀ w ∈ wsX20, w ∈ wsX4_worstCode := by decide +kernel
  have hin_X4 : ∀ w ∈ wsX40, w ∈ wsX4_worstCode := by decide +kernel
  have hf_10 := hts (.fieldLink RX4 10 "FewLooks" "row" "LFewLooks$Row;") (by decide +kernel)
  have hf_16 := hts (.fieldLink RX4 16 "FewLooks" "trial" "LFewLooks$Row;") (by decide +kernel)
  have hf_22 := hts (.fieldLink RX4 22 "FewLooks" "mender" "LFewLooks$Mender;") (by decide +kernel)
  unfold fX4_worstCode at h
  refine lv_iconst (v := (-1 : Int32)) hx hb dX4_worstCode_0 (by decide) ?_
  refine lv_istore_n (lv' := [(3, .int (-1 : Int32)), (0, .ref ax), (1, .int p0), (2, .int p1)]) hx hb dX4_worstCode_1 rfl hl (by decide) rfl (fun ls hl => ?_)
  refine lv_iconst (v := (-1 : Int32)) hx hb dX4_worstCode_2 (by decide) ?_
  refine lv_istore (lv' := [(4, .int (-1 : Int32)), (3, .int (-1 : Int32)), (0, .ref ax), (1, .int p0), (2, .int p1)]) hx hb dX4_worstCode_3 hl (by decide) rfl (fun ls hl => ?_)
  refine lv_iconst (v := (0 : Int32)) hx hb dX4_worstCode_5 (by decide) ?_
  refine lv_istore (lv' := [(5, .int (0 : Int32)), (4, .int (-1 : Int32)), (3, .int (-1 : Int32)), (0, .ref ax), (1, .int p0), (2, .int p1)]) hx hb dX4_worstCode_6 hl (by decide) rfl (fun ls hl => ?_)
  have L8_6 : ∀ (n : Nat) (l1 : Int32) (l2 : Int32) (l3 : Int32) (l4 : Int32) (l5 : Int32) (vxts : Int32) (fxtd : Nat → Int32) (vxmns : Int32) (fxmnd : Nat → Int32) (vxmgs : Int32) (fxmgd : Nat → Int32) (fxmc : Nat → Int32) (rs : (Int32 × Int32 × Int32 × Int32 × (Nat → Int32) × Int32 × (Nat → Int32) × Int32 × (Nat → Int32) × (Nat → Int32))) (H : Heap) (locs : List Loc) (ls : Array Slot), fX4_worstCode_L8 n l1 l2 l3 l4 l5 vxrs vxts fxtd vxmns fxmnd vxmgs fxmgd fxmc = some rs → lv_has ls 7 [(0, .ref ax), (1, .int l1), (2, .int l2), (3, .int l3), (4, .int l4), (5, .int l5)] → va_P (dC, dI) vwCl [(ax, .inr (4, [.ref axr, .ref axt, .ref axm, .ref axb, .ref axe, .int vxk])), (axr, .inr (2, [.ref axrd, .int vxrs])), (axt, .inr (2, [.ref axtd, .int vxts])), (axtd, .inl (cy, 8, .inl fxtd)), (axm, .inr (0, [.ref axmn, .ref axmg, .ref axmc])), (axmn, .inr (2, [.ref axmnd, .int vxmns])), (axmnd, .inl (cy, 8, .inl fxmnd)), (axmg, .inr (2, [.ref axmgd, .int vxmgs])), (axmgd, .inl (cy, 8, .inl fxmgd)), (axmc, .inl (cy, 36, .inl fxmc))] H → va_D A [(ax, .inr (4, [.ref axr, .ref axt, .ref axm, .ref axb, .ref axe, .int vxk])), (axr, .inr (2, [.ref axrd, .int vxrs])), (axt, .inr (2, [.ref axtd, .int vxts])), (axtd, .inl (cy, 8, .inl fxtd)), (axm, .inr (0, [.ref axmn, .ref axmg, .ref axmc])), (axmn, .inr (2, [.ref axmnd, .int vxmns])), (axmnd, .inl (cy, 8, .inl fxmnd)), (axmg, .inr (2, [.ref axmgd, .int vxmgs])), (axmgd, .inl (cy, 8, .inl fxmgd)), (axmc, .inl (cy, 36, .inl fxmc))] → va_S A s.heap H locs → (∀ (H : Heap) (locs : List Loc) (ls : Array Slot), lv_has ls 7 [(0, .ref ax), (1, .int l1), (2, .int l2), (3, .int rs.1), (4, .int rs.2.1), (5, .int rs.2.2.1)] → va_P (dC, dI) vwCl [(ax, .inr (4, [.ref axr, .ref axt, .ref axm, .ref axb, .ref axe, .int vxk])), (axr, .inr (2, [.ref axrd, .int vxrs])), (axt, .inr (2, [.ref axtd, .int rs.2.2.2.1])), (axtd, .inl (cy, 8, .inl rs.2.2.2.2.1)), (axm, .inr (0, [.ref axmn, .ref axmg, .ref axmc])), (axmn, .inr (2, [.ref axmnd, .int rs.2.2.2.2.2.1])), (axmnd, .inl (cy, 8, .inl rs.2.2.2.2.2.2.1)), (axmg, .inr (2, [.ref axmgd, .int rs.2.2.2.2.2.2.2.1])), (axmgd, .inl (cy, 8, .inl rs.2.2.2.2.2.2.2.2.1)), (axmc, .inl (cy, 36, .inl rs.2.2.2.2.2.2.2.2.2))] H → va_D A [(ax, .inr (4, [.ref axr, .ref axt, .ref axm, .ref axb, .ref axe, .int vxk])), (axr, .inr (2, [.ref axrd, .int vxrs])), (axt, .inr (2, [.ref axtd, .int rs.2.2.2.1])), (axtd, .inl (cy, 8, .inl rs.2.2.2.2.1)), (axm, .inr (0, [.ref axmn, .ref axmg, .ref axmc])), (axmn, .inr (2, [.ref axmnd, .int rs.2.2.2.2.2.1])), (axmnd, .inl (cy, 8, .inl rs.2.2.2.2.2.2.1)), (axmg, .inr (2, [.ref axmgd, .int rs.2.2.2.2.2.2.2.1])), (axmgd, .inl (cy, 8, .inl rs.2.2.2.2.2.2.2.2.1)), (axmc, .inl (cy, 36, .inl rs.2.2.2.2.2.2.2.2.2))] → va_S A s.heap H locs → W p l e (headSpec wsX4_worstCode ({ frames := 4, cells := 0, slots := 0, locals := 97 })).room s m (([.ref ax, .int p0, .int p1] : List Value).toArray) below meth c H locs 0 0 (MQ below (va_Qi (fun (r : Int32) (_ : Unit) => r = res.1) (QW (dC, dI) cy A [(ax, .inr (4, [.ref axr, .ref axt, .ref axm, .ref axb, .ref axe, .int vxk])), (axr, .inr (2, [.ref axrd, .int vxrs])), (axt, .inr (2, [.ref axtd, .int res.2.1])), (axtd, .inl (cy, 8, .inl res.2.2.1)), (axm, .inr (0, [.ref axmn, .ref axmg, .ref axmc])), (axmn, .inr (2, [.ref axmnd, .int res.2.2.2.1])), (axmnd, .inl (cy, 8, .inl res.2.2.2.2.1)), (axmg, .inr (2, [.ref axmgd, .int res.2.2.2.2.2.1])), (axmgd, .inl (cy, 8, .inl res.2.2.2.2.2.2.1)), (axmc, .inl (cy, 36, .inl res.2.2.2.2.2.2.2))]) A) (([.ref ax, .int p0, .int p1] : List Value).toArray) s 0 0 A) (F0 m 84 ls [])) → W p l e (headSpec wsX4_worstCode ({ frames := 4, cells := 0, slots := 0, locals := 97 })).room s m (([.ref ax, .int p0, .int p1] : List Value).toArray) below meth c H locs 0 0 (MQ below (va_Qi (fun (r : Int32) (_ : Unit) => r = res.1) (QW (dC, dI) cy A [(ax, .inr (4, [.ref axr, .ref axt, .ref axm, .ref axb, .ref axe, .int vxk])), (axr, .inr (2, [.ref axrd, .int vxrs])), (axt, .inr (2, [.ref axtd, .int res.2.1])), (axtd, .inl (cy, 8, .inl res.2.2.1)), (axm, .inr (0, [.ref axmn, .ref axmg, .ref axmc])), (axmn, .inr (2, [.ref axmnd, .int res.2.2.2.1])), (axmnd, .inl (cy, 8, .inl res.2.2.2.2.1)), (axmg, .inr (2, [.ref axmgd, .int res.2.2.2.2.2.1])), (axmgd, .inl (cy, 8, .inl res.2.2.2.2.2.2.1)), (axmc, .inl (cy, 36, .inl res.2.2.2.2.2.2.2))]) A) (([.ref ax, .int p0, .int p1] : List Value).toArray) s 0 0 A) (F0 m 8 ls []) := by
    intro n
    induction n with
    | zero =>
      intro l1 l2 l3 l4 l5 vxts fxtd vxmns fxmnd vxmgs fxmgd fxmc rs H locs ls h
      rw [fX4_worstCode_L8_0] at h
      cases h
    | succ n ih =>
      intro l1 l2 l3 l4 l5 vxts fxtd vxmns fxmnd vxmgs fxmgd fxmc rs H locs ls h hl hP hD hS K
      rw [fX4_worstCode_L8_s] at h
      refine lv_iload hx hb dX4_worstCode_8 (lv_at hl 5 rfl) ?_
      refine lv_iconst (v := (1 : Int32)) hx hb dX4_worstCode_10 (by decide) ?_
      refine lv_aload_n hx hb dX4_worstCode_11 rfl (lv_at hl 0 rfl) ?_
      refine va_get (D := (dC, dI)) (ci := 4) (v := .ref axr) (C := RX4) (T := TX4) (N := 6) hx hb hts hin_X4 hown hK hP 0 rfl rfl 0 (by decide) (hf_10) (fun _ h9 => h9) rfl dX4_worstCode_12 ?_
      refine va_getN (D := (dC, dI)) (ci := 2) (v := .int vxrs) (C := RX2) (T := TX2) (N := 2) hx hb hts hin_X2 hown hK hP 1 rfl rfl 1 (by decide) (va_Nw.use rfl (hN.1)) (fun _ h9 => h9) rfl dX4_worstCode_15 ?_
      refine lv_ishl hx hb dX4_worstCode_18 ?_
      refine lv_icmp_ge (tgt := 84) hx hb dX4_worstCode_19 (by decide) (fun c6 => ?_) (fun c6 => ?_)
      · rw [if_pos c6] at h
        have h0 := Option.some.inj h
        subst h0
        exact K H locs ls (lv_sub hl [0, 1, 2, 3, 4, 5] rfl) hP hD hS
      · rw [if_neg c6] at h
        refine lv_aload_n hx hb dX4_worstCode_22 rfl (lv_at hl 0 rfl) ?_
        refine va_get (D := (dC, dI)) (ci := 4) (v := .ref axt) (C := RX4) (T := TX4) (N := 6) hx hb hts hin_X4 hown hK hP 0 rfl rfl 1 (by decide) (hf_16) (fun _ h9 => h9) rfl dX4_worstCode_23 ?_
        refine lv_iload hx hb dX4_worstCode_26 (lv_at hl 5 rfl) ?_
        refine lv_aload_n hx hb dX4_worstCode_28 rfl (lv_at hl 0 rfl) ?_
        refine va_get (D := (dC, dI)) (ci := 4) (v := .ref axr) (C := RX4) (T := TX4) (N := 6) hx hb hts hin_X4 hown hK hP 0 rfl rfl 0 (by decide) (hf_10) (fun _ h9 => h9) rfl dX4_worstCode_29 ?_
        refine va_getN (D := (dC, dI)) (ci := 2) (v := .int vxrs) (C := RX2) (T := TX2) (N := 2) hx hb hts hin_X2 hown hK hP 1 rfl rfl 1 (by decide) (va_Nw.use rfl (hN.1)) (fun _ h9 => h9) rfl dX4_worstCode_32 ?_
        obtain ⟨r1, hr1, h⟩ := bd_some h
        have hFc := va_free (wc := [(axt, .inr (2, [.ref axtd, .int vxts])), (axtd, .inl (cy, 8, .inl fxtd))]) hD hS hA [2, 3] rfl
        refine va_callv (va_runV (As := [.int l5, .int vxrs]) (rest := []) ⟨hx, hb, hml, hown, hts⟩ (c_X2_spell l dC dI cy axt axtd H.size vxts fxtd l5 vxrs r1 hr1) (cwV 2 hts gX4_worstCode_X2_spell rfl rfl rfl (by decide +kernel) ⟨Nat.le_of_ble_eq_true rfl, Nat.le_of_ble_eq_true rfl⟩) ⟨PW_fb, va_recv hK hP (ci := 2) (q0 := 2) rfl rfl, PW_pre (hP.sub (ws' := [(axt, .inr (2, [.ref axtd, .int vxts])), (axtd, .inl (cy, 8, .inl fxtd))]) [2, 3] rfl) hK (hD.sub [2, 3] (by decide) rfl) hN⟩ rfl rfl hl.1 rfl (lv_room (Nat.le_of_ble_eq_true rfl)) dX4_worstCode_35 ⟨Nat.zero_le _, Nat.zero_le _⟩) hS (fun q _ h => hFc q h) hFc (fun u t H locs ht hvm hw hB hz1 hk1 hS => ?_)
        obtain ⟨hP, hD⟩ := jn (wr := [(ax, .inr (4, [.ref axr, .ref axt, .ref axm, .ref axb, .ref axe, .int vxk])), (axr, .inr (2, [.ref axrd, .int vxrs])), (axm, .inr (0, [.ref axmn, .ref axmg, .ref axmc])), (axmn, .inr (2, [.ref axmnd, .int vxmns])), (axmnd, .inl (cy, 8, .inl fxmnd)), (axmg, .inr (2, [.ref axmgd, .int vxmgs])), (axmgd, .inl (cy, 8, .inl fxmgd)), (axmc, .inl (cy, 36, .inl fxmc))]) (w1 := [(axt, .inr (2, [.ref axtd, .int r1.1])), (axtd, .inl (cy, 8, .inl r1.2))]) (ws' := [(ax, .inr (4, [.ref axr, .ref axt, .ref axm, .ref axb, .ref axe, .int vxk])), (axr, .inr (2, [.ref axrd, .int vxrs])), (axt, .inr (2, [.ref axtd, .int r1.1])), (axtd, .inl (cy, 8, .inl r1.2)), (axm, .inr (0, [.ref axmn, .ref axmg, .ref axmc])), (axmn, .inr (2, [.ref axmnd, .int vxmns])), (axmnd, .inl (cy, 8, .inl fxmnd)), (axmg, .inr (2, [.ref axmgd, .int vxmgs])), (axmgd, .inl (cy, 8, .inl fxmgd)), (axmc, .inl (cy, 36, .inl fxmc))]) hP hD [2, 3] [0, 1, 4, 5, 6, 7, 8, 9] rfl rfl (by decide) (by decide) hk1 hFc hB ht [0, 1, 8, 9, 2, 3, 4, 5, 6, 7] rfl (by decide) rfl
        clear hFc hB hk1 hz1 hvm
        refine lv_aload_n hx hb dX4_worstCode_38 rfl (lv_at hl 0 rfl) ?_
        refine va_get (D := (dC, dI)) (ci := 4) (v := .ref axt) (C := RX4) (T := TX4) (N := 6) hx hb hts hin_X4 hown hK hP 0 rfl rfl 1 (by decide) (hf_16) (fun _ h9 => h9) rfl dX4_worstCode_39 ?_
        refine lv_iload_n hx hb dX4_worstCode_42 rfl (lv_at hl 1 rfl) ?_
        obtain ⟨r2, hr2, h⟩ := bd_some h
        have hFc := va_free (wc := [(axt, .inr (2, [.ref axtd, .int r1.1])), (axtd, .inl (cy, 8, .inl r1.2))]) hD hS hA [2, 3] rfl
        refine va_calli (va_runV (As := [.int l1]) (rest := []) ⟨hx, hb, hml, hown, hts⟩ (c_X2_passing l dC dI cy axt axtd H.size r1.1 r1.2 l1 r2 hr2) (cwV 1 hts gX4_worstCode_X2_passing rfl rfl rfl (by decide +kernel) ⟨Nat.le_of_ble_eq_true rfl, Nat.le_of_ble_eq_true rfl⟩) ⟨PW_fb, va_recv hK hP (ci := 2) (q0 := 2) rfl rfl, PW_pre (hP.sub (ws' := [(axt, .inr (2, [.ref axtd, .int r1.1])), (axtd, .inl (cy, 8, .inl r1.2))]) [2, 3] rfl) hK (hD.sub [2, 3] (by decide) rfl) hN⟩ rfl rfl hl.1 rfl (lv_room (Nat.le_of_ble_eq_true rfl)) dX4_worstCode_43 ⟨Nat.zero_le _, Nat.zero_le _⟩) hS (fun q _ h => hFc q h) hFc (fun rz u t H locs ht hvm hw hB hz1 hk1 hS => ?_)
        obtain ⟨hP, hD⟩ := jn (wr := [(ax, .inr (4, [.ref axr, .ref axt, .ref axm, .ref axb, .ref axe, .int vxk])), (axr, .inr (2, [.ref axrd, .int vxrs])), (axm, .inr (0, [.ref axmn, .ref axmg, .ref axmc])), (axmn, .inr (2, [.ref axmnd, .int vxmns])), (axmnd, .inl (cy, 8, .inl fxmnd)), (axmg, .inr (2, [.ref axmgd, .int vxmgs])), (axmgd, .inl (cy, 8, .inl fxmgd)), (axmc, .inl (cy, 36, .inl fxmc))]) (w1 := [(axt, .inr (2, [.ref axtd, .int r1.1])), (axtd, .inl (cy, 8, .inl r1.2))]) (ws' := [(ax, .inr (4, [.ref axr, .ref axt, .ref axm, .ref axb, .ref axe, .int vxk])), (axr, .inr (2, [.ref axrd, .int vxrs])), (axt, .inr (2, [.ref axtd, .int r1.1])), (axtd, .inl (cy, 8, .inl r1.2)), (axm, .inr (0, [.ref axmn, .ref axmg, .ref axmc])), (axmn, .inr (2, [.ref axmnd, .int vxmns])), (axmnd, .inl (cy, 8, .inl fxmnd)), (axmg, .inr (2, [.ref axmgd, .int vxmgs])), (axmgd, .inl (cy, 8, .inl fxmgd)), (axmc, .inl (cy, 36, .inl fxmc))]) hP hD [2, 3] [0, 1, 4, 5, 6, 7, 8, 9] rfl rfl (by decide) (by decide) hk1 hFc hB ht [0, 1, 8, 9, 2, 3, 4, 5, 6, 7] rfl (by decide) rfl
        replace hw := hw.symm
        subst hw
        clear hFc hB hk1 hz1 hvm
        refine lv_istore (lv' := [(6, .int r2), (0, .ref ax), (1, .int l1), (2, .int l2), (3, .int l3), (4, .int l4), (5, .int l5)]) hx hb dX4_worstCode_46 hl (by decide) rfl (fun ls hl => ?_)
        refine lv_iload hx hb dX4_worstCode_48 (lv_at hl 0 rfl) ?_
        refine lv_iload hx hb dX4_worstCode_50 (lv_at hl 5 rfl) ?_
        refine lv_icmp_le (tgt := 78) hx hb dX4_worstCode_52 (by decide) (fun c5 => ?_) (fun c5 => ?_)
        · rw [if_pos c5] at h
          refine lv_iinc (v := l5 + (1 : Int32)) (lv' := [(5, .int (l5 + (1 : Int32))), (6, .int r2), (0, .ref ax), (1, .int l1), (2, .int l2), (3, .int l3), (4, .int l4)]) hx hb dX4_worstCode_78 hl (k := 6) rfl rfl (by decide) rfl (fun ls hl => ?_)
          refine lv_goto (tgt := 8) hx hb dX4_worstCode_81 (by decide) ?_
          exact ih l1 l2 l3 l4 (l5 + (1 : Int32)) r1.1 r1.2 vxmns fxmnd vxmgs fxmgd fxmc rs H locs ls h (lv_sub hl [2, 3, 4, 5, 6, 0] rfl) hP hD hS K
        · rw [if_neg c5] at h
          refine lv_aload_n hx hb dX4_worstCode_55 rfl (lv_at hl 1 rfl) ?_
          refine va_get (D := (dC, dI)) (ci := 4) (v := .ref axm) (C := RX4) (T := TX4) (N := 6) hx hb hts hin_X4 hown hK hP 0 rfl rfl 2 (by decide) (hf_22) (fun _ h9 => h9) rfl dX4_worstCode_56 ?_
          refine lv_aload_n hx hb dX4_worstCode_59 rfl (lv_at hl 1 rfl) ?_
          refine va_get (D := (dC, dI)) (ci := 4) (v := .ref axt) (C := RX4) (T := TX4) (N := 6) hx hb hts hin_X4 hown hK hP 0 rfl rfl 1 (by decide) (hf_16) (fun _ h9 => h9) rfl dX4_worstCode_60 ?_
          refine lv_iload_n hx hb dX4_worstCode_63 rfl (lv_at hl 2 rfl) ?_
          obtain ⟨r3, hr3, h⟩ := bd_some h
          have hFc := va_free (wc := [(axm, .inr (0, [.ref axmn, .ref axmg, .ref axmc])), (axmn, .inr (2, [.ref axmnd, .int vxmns])), (axmnd, .inl (cy, 8, .inl fxmnd)), (axmg, .inr (2, [.ref axmgd, .int vxmgs])), (axmgd, .inl (cy, 8, .inl fxmgd)), (axmc, .inl (cy, 36, .inl fxmc)), (axt, .inr (2, [.ref axtd, .int r1.1])), (axtd, .inl (cy, 8, .inl r1.2))]) hD hS hA [4, 5, 6, 7, 8, 9, 2, 3] rfl
          refine va_calli (va_runV (As := [.ref axt, .int l1]) (rest := []) ⟨hx, hb, hml, hown, hts⟩ (c_X0_seek l dC dI cy axm axmn axmg axmc axmnd axmgd axt axtd H.size vxmns fxmnd vxmgs fxmgd fxmc r1.1 r1.2 l1 r3 hr3) (cwV 2 hts gX4_worstCode_X0_seek rfl rfl rfl (by decide +kernel) ⟨Nat.le_of_ble_eq_true rfl, Nat.le_of_ble_eq_true rfl⟩) ⟨PW_fb, va_recv hK hP (ci := 0) (q0 := 4) rfl rfl, PW_pre (hP.sub (ws' := [(axm, .inr (0, [.ref axmn, .ref axmg, .ref axmc])), (axmn, .inr (2, [.ref axmnd, .int vxmns])), (axmnd, .inl (cy, 8, .inl fxmnd)), (axmg, .inr (2, [.ref axmgd, .int vxmgs])), (axmgd, .inl (cy, 8, .inl fxmgd)), (axmc, .inl (cy, 36, .inl fxmc)), (axt, .inr (2, [.ref axtd, .int r1.1])), (axtd, .inl (cy, 8, .inl r1.2))]) [4, 5, 6, 7, 8, 9, 2, 3] rfl) hK (hD.sub [4, 5, 6, 7, 8, 9, 2, 3] (by decide) rfl) hN⟩ rfl rfl hl.1 rfl (lv_room (Nat.le_of_ble_eq_true rfl)) dX4_worstCode_64 ⟨Nat.zero_le _, Nat.zero_le _⟩) hS (fun q _ h => hFc q h) hFc (fun rz u t H locs ht hvm hw hB hz1 hk1 hS => ?_)
          obtain ⟨hP, hD⟩ := jn (wr := [(ax, .inr (4, [.ref axr, .ref axt, .ref axm, .ref axb, .ref axe, .int vxk])), (axr, .inr (2, [.ref axrd, .int vxrs]))]) (w1 := [(axm, .inr (0, [.ref axmn, .ref axmg, .ref axmc])), (axmn, .inr (2, [.ref axmnd, .int r3.2.1])), (axmnd, .inl (cy, 8, .inl r3.2.2.1)), (axmg, .inr (2, [.ref axmgd, .int r3.2.2.2.1])), (axmgd, .inl (cy, 8, .inl r3.2.2.2.2.1)), (axmc, .inl (cy, 36, .inl r3.2.2.2.2.2)), (axt, .inr (2, [.ref axtd, .int r1.1])), (axtd, .inl (cy, 8, .inl r1.2))]) (ws' := [(ax, .inr (4, [.ref axr, .ref axt, .ref axm, .ref axb, .ref axe, .int vxk])), (axr, .inr (2, [.ref axrd, .int vxrs])), (axt, .inr (2, [.ref axtd, .int r1.1])), (axtd, .inl (cy, 8, .inl r1.2)), (axm, .inr (0, [.ref axmn, .ref axmg, .ref axmc])), (axmn, .inr (2, [.ref axmnd, .int r3.2.1])), (axmnd, .inl (cy, 8, .inl r3.2.2.1)), (axmg, .inr (2, [.ref axmgd, .int r3.2.2.2.1])), (axmgd, .inl (cy, 8, .inl r3.2.2.2.2.1)), (axmc, .inl (cy, 36, .inl r3.2.2.2.2.2))]) hP hD [4, 5, 6, 7, 8, 9, 2, 3] [0, 1] rfl rfl (by decide) (by decide) hk1 hFc hB ht [0, 1, 8, 9, 2, 3, 4, 5, 6, 7] rfl (by decide) rfl
          replace hw := hw.symm
          subst hw
          clear hFc hB hk1 hz1 hvm
          refine lv_iload_n hx hb dX4_worstCode_67 rfl (lv_at hl 3 rfl) ?_
          refine lv_icmp_lt (tgt := 78) hx hb dX4_worstCode_68 (by decide) (fun c4 => ?_) (fun c4 => ?_)
          · rw [if_pos c4] at h
            refine lv_iinc (v := l5 + (1 : Int32)) (lv' := [(5, .int (l5 + (1 : Int32))), (6, .int r2), (0, .ref ax), (1, .int l1), (2, .int l2), (3, .int l3), (4, .int l4)]) hx hb dX4_worstCode_78 hl (k := 6) rfl rfl (by decide) rfl (fun ls hl => ?_)
            refine lv_goto (tgt := 8) hx hb dX4_worstCode_81 (by decide) ?_
            exact ih l1 l2 l3 l4 (l5 + (1 : Int32)) r1.1 r1.2 r3.2.1 r3.2.2.1 r3.2.2.2.1 r3.2.2.2.2.1 r3.2.2.2.2.2 rs H locs ls h (lv_sub hl [2, 3, 4, 5, 6, 0] rfl) hP hD hS K
          · rw [if_neg c4] at h
            refine lv_iload hx hb dX4_worstCode_71 (lv_at hl 0 rfl) ?_
            refine lv_istore (lv' := [(4, .int r2), (6, .int r2), (0, .ref ax), (1, .int l1), (2, .int l2), (3, .int l3), (5, .int l5)]) hx hb dX4_worstCode_73 hl (by decide) rfl (fun ls hl => ?_)
            refine lv_iload hx hb dX4_worstCode_75 (lv_at hl 6 rfl) ?_
            refine lv_istore_n (lv' := [(3, .int l5), (4, .int r2), (6, .int r2), (0, .ref ax), (1, .int l1), (2, .int l2), (5, .int l5)]) hx hb dX4_worstCode_77 rfl hl (by decide) rfl (fun ls hl => ?_)
            refine lv_iinc (v := l5 + (1 : Int32)) (lv' := [(5, .int (l5 + (1 : Int32))), (3, .int l5), (4, .int r2), (6, .int r2), (0, .ref ax), (1, .int l1), (2, .int l2)]) hx hb dX4_worstCode_78 hl (k := 6) rfl rfl (by decide) rfl (fun ls hl => ?_)
            refine lv_goto (tgt := 8) hx hb dX4_worstCode_81 (by decide) ?_
            exact ih l1 l2 l5 r2 (l5 + (1 : Int32)) r1.1 r1.2 r3.2.1 r3.2.2.1 r3.2.2.2.1 r3.2.2.2.2.1 r3.2.2.2.2.2 rs H locs ls h (lv_sub hl [4, 5, 6, 1, 2, 0] rfl) hP hD hS K
  obtain ⟨q8, hq8, h⟩ := bd_some h
  refine L8_6 FU p0 p1 (-1 : Int32) (-1 : Int32) (0 : Int32) vxts fxtd vxmns fxmnd vxmgs fxmgd fxmc q8 H locs ls hq8 (lv_sub hl [3, 4, 5, 2, 1, 0] rfl) hP hD hS (fun H locs ls hl hP hD hS => ?_)
  refine lv_iload_n hx hb dX4_worstCode_84 rfl (lv_at hl 3 rfl) ?_
  have h0 := Option.some.inj h
  subst h0
  exact W.iret hx hb hr (fun t ht hW => ⟨⟨_, (), rfl, rfl, QW_mk hP hK hD ht hW⟩, hS.F ht⟩) hS.2.2 dX4_worstCode_85

noncomputable def fX4_worst (vxrs : Int32) (vxts : Int32) (fxtd : Nat → Int32) (vxmns : Int32) (fxmnd : Nat → Int32) (vxmgs : Int32) (fxmgd : Nat → Int32) (fxmc : Nat → Int32) (p0 : Int32) (p1 : Int32) (p2 : Int32) (p3 : Int32) : Option (Int32 × Int32 × (Nat → Int32) × Int32 × (Nat → Int32) × Int32 × (Nat → Int32) × (Nat → Int32)) := bd (fX4_isRow p0) fun r1 => if r1 = 0 then (some ((-2 : Int32), vxts, fxtd, vxmns, fxmnd, vxmgs, fxmgd, fxmc)) else (bd (fX4_within p1 (0 : Int32) (8 : Int32)) fun r2 => if r2 = 0 then (some ((-2 : Int32), vxts, fxtd, vxmns, fxmnd, vxmgs, fxmgd, fxmc)) else (bd (fX4_within p3 (0 : Int32) (2 : Int32)) fun r3 => if r3 = 0 then (some ((-2 : Int32), vxts, fxtd, vxmns, fxmnd, vxmgs, fxmgd, fxmc)) else (bd (if p3 = 0 then (some (vxrs - (1 : Int32))) else (some (0 : Int32))) fun q4 => bd (fX4_within p2 (0 : Int32) q4) fun r6 => if r6 = 0 then (some ((-2 : Int32), vxts, fxtd, vxmns, fxmnd, vxmgs, fxmgd, fxmc)) else (bd (fX4_worstCode vxrs vxts fxtd vxmns fxmnd vxmgs fxmgd fxmc p0 p1) fun r7 => if r7.1 = (-1 : Int32) then (some ((-1 : Int32), r7.2.1, r7.2.2.1, r7.2.2.2.1, r7.2.2.2.2.1, r7.2.2.2.2.2.1, r7.2.2.2.2.2.2.1, r7.2.2.2.2.2.2.2)) else (bd (fX2_spell r7.2.1 r7.2.2.1 r7.1 vxrs) fun r8 => if p3 = 0 then (gin p2 8 (some (r8.2 p2.toNatClampNeg, r8.1, r8.2, r7.2.2.2.1, r7.2.2.2.2.1, r7.2.2.2.2.2.1, r7.2.2.2.2.2.2.1, r7.2.2.2.2.2.2.2))) else (bd (fX2_passing r8.1 r8.2 p0) fun r9 => bd (fX2_looks r8.1 p0) fun r10 => bd (fX4_lowestTerm r9 r10 (p3 - (1 : Int32))) fun r11 => some (r11, r8.1, r8.2, r7.2.2.2.1, r7.2.2.2.2.1, r7.2.2.2.2.2.1, r7.2.2.2.2.2.2.1, r7.2.2.2.2.2.2.2)))))))
set_option maxHeartbeats 4000000 in
set_option maxRecDepth 100000 in
theorem c_X4_worst (l : Launch) (dC : Nat → ClassId) (dI : Nat → Nat → Nat) (cy : ClassId) (ax axr axt axm axb axe axrd axtd axmn axmg axmc axmnd axmgd : Nat) (sz : Nat) (vxk : Int32) (vxrs : Int32) (vxts : Int32) (fxtd : Nat → Int32) (vxmns : Int32) (fxmnd : Nat → Int32) (vxmgs : Int32) (fxmgd : Nat → Int32) (fxmc : Nat → Int32) (p0 : Int32) (p1 : Int32) (p2 : Int32) (p3 : Int32) (res : Int32 × Int32 × (Nat → Int32) × Int32 × (Nat → Int32) × Int32 × (Nat → Int32) × (Nat → Int32)) (h : fX4_worst vxrs vxts fxtd vxmns fxmnd vxmgs fxmgd fxmc p0 p1 p2 p3 = some res) : Met l yX4_worst wsX4_worst ({ frames := 5, cells := 0, slots := 0, locals := 123 }) (va_Pc [.ref ax, .int p0, .int p1, .int p2, .int p3] (PW (dC, dI) cy sz [(ax, .inr (4, [.ref axr, .ref axt, .ref axm, .ref axb, .ref axe, .int vxk])), (axr, .inr (2, [.ref axrd, .int vxrs])), (axt, .inr (2, [.ref axtd, .int vxts])), (axtd, .inl (cy, 8, .inl fxtd)), (axm, .inr (0, [.ref axmn, .ref axmg, .ref axmc])), (axmn, .inr (2, [.ref axmnd, .int vxmns])), (axmnd, .inl (cy, 8, .inl fxmnd)), (axmg, .inr (2, [.ref axmgd, .int vxmgs])), (axmgd, .inl (cy, 8, .inl fxmgd)), (axmc, .inl (cy, 36, .inl fxmc))])) (va_Qi (fun (r : Int32) (_ : Unit) => r = res.1) (QW (dC, dI) cy (va_A [(ax, .inr (4, [.ref axr, .ref axt, .ref axm, .ref axb, .ref axe, .int vxk])), (axr, .inr (2, [.ref axrd, .int vxrs])), (axt, .inr (2, [.ref axtd, .int vxts])), (axtd, .inl (cy, 8, .inl fxtd)), (axm, .inr (0, [.ref axmn, .ref axmg, .ref axmc])), (axmn, .inr (2, [.ref axmnd, .int vxmns])), (axmnd, .inl (cy, 8, .inl fxmnd)), (axmg, .inr (2, [.ref axmgd, .int vxmgs])), (axmgd, .inl (cy, 8, .inl fxmgd)), (axmc, .inl (cy, 36, .inl fxmc))] sz) [(ax, .inr (4, [.ref axr, .ref axt, .ref axm, .ref axb, .ref axe, .int vxk])), (axr, .inr (2, [.ref axrd, .int vxrs])), (axt, .inr (2, [.ref axtd, .int res.2.1])), (axtd, .inl (cy, 8, .inl res.2.2.1)), (axm, .inr (0, [.ref axmn, .ref axmg, .ref axmc])), (axmn, .inr (2, [.ref axmnd, .int res.2.2.2.1])), (axmnd, .inl (cy, 8, .inl res.2.2.2.2.1)), (axmg, .inr (2, [.ref axmgd, .int res.2.2.2.2.2.1])), (axmgd, .inl (cy, 8, .inl res.2.2.2.2.2.2.1)), (axmc, .inl (cy, 36, .inl res.2.2.2.2.2.2.2))]) (va_A [(ax, .inr (4, [.ref axr, .ref axt, .ref axm, .ref axb, .ref axe, .int vxk])), (axr, .inr (2, [.ref axrd, .int vxrs])), (axt, .inr (2, [.ref axtd, .int vxts])), (axtd, .inl (cy, 8, .inl fxtd)), (axm, .inr (0, [.ref axmn, .ref axmg, .ref axmc])), (axmn, .inr (2, [.ref axmnd, .int vxmns])), (axmnd, .inl (cy, 8, .inl fxmnd)), (axmg, .inr (2, [.ref axmgd, .int vxmgs])), (axmgd, .inl (cy, 8, .inl fxmgd)), (axmc, .inl (cy, 36, .inl fxmc))] sz)) 0 0 (va_A [(ax, .inr (4, [.ref axr, .ref axt, .ref axm, .ref axb, .ref axe, .int vxk])), (axr, .inr (2, [.ref axrd, .int vxrs])), (axt, .inr (2, [.ref axtd, .int vxts])), (axtd, .inl (cy, 8, .inl fxtd)), (axm, .inr (0, [.ref axmn, .ref axmg, .ref axmc])), (axmn, .inr (2, [.ref axmnd, .int vxmns])), (axmnd, .inl (cy, 8, .inl fxmnd)), (axmg, .inr (2, [.ref axmgd, .int vxmgs])), (axmgd, .inl (cy, 8, .inl fxmgd)), (axmc, .inl (cy, 36, .inl fxmc))] sz) := by
  refine Met.ofW (cc := cX4_worst) (maxL := 6) (ret := (some .int)) (by decide) rfl ?_
  intro p e s m args below meth c s₁ B hml hv
  obtain ⟨rfl, hsz, hP, hK, hD0, hN⟩ := hv
  have hx := B.exec
  have hb := B.bytes
  have hr := B.returns
  have hts := atoms_spec (ws := wsX4_worst) B.pre
  have hown : s.vm.findClass RX4 = some m.cls := findClass_of_methodNamed B.named
  have hlocks := B.notSynchronized
  subst hsz
  have hD := hD0.self (sz := s.heap.size)
  clear hD0
  generalize hAe : va_A [(ax, .inr (4, [.ref axr, .ref axt, .ref axm, .ref axb, .ref axe, .int vxk])), (axr, .inr (2, [.ref axrd, .int vxrs])), (axt, .inr (2, [.ref axtd, .int vxts])), (axtd, .inl (cy, 8, .inl fxtd)), (axm, .inr (0, [.ref axmn, .ref axmg, .ref axmc])), (axmn, .inr (2, [.ref axmnd, .int vxmns])), (axmnd, .inl (cy, 8, .inl fxmnd)), (axmg, .inr (2, [.ref axmgd, .int vxmgs])), (axmgd, .inl (cy, 8, .inl fxmgd)), (axmc, .inl (cy, 36, .inl fxmc))] s.heap.size = A at hD ⊢
  have hA : ∀ q : Nat, s.heap.size ≤ q → A q := fun q h => by rw [← hAe]; exact Or.inr h
  have hS : va_S A s.heap s.heap [] := va_S.rf
  have hl := lv_entry ([.ref ax, .int p0, .int p1, .int p2, .int p3]) (n := 6) (Nat.le_of_ble_eq_true rfl)
  rw [lg_entry_eq]
  generalize (lg_sl ([.ref ax, .int p0, .int p1, .int p2, .int p3]) ++ List.replicate (6 - (lg_sl ([.ref ax, .int p0, .int p1, .int p2, .int p3])).length) Slot.unset).toArray = ls at hl ⊢
  replace hl : lv_has ls 6 [(0, .ref ax), (1, .int p0), (2, .int p1), (3, .int p2), (4, .int p3)] := hl
  replace hP : va_P (dC, dI) vwCl [(ax, .inr (4, [.ref axr, .ref axt, .ref axm, .ref axb, .ref axe, .int vxk])), (axr, .inr (2, [.ref axrd, .int vxrs])), (axt, .inr (2, [.ref axtd, .int vxts])), (axtd, .inl (cy, 8, .inl fxtd)), (axm, .inr (0, [.ref axmn, .ref axmg, .ref axmc])), (axmn, .inr (2, [.ref axmnd, .int vxmns])), (axmnd, .inl (cy, 8, .inl fxmnd)), (axmg, .inr (2, [.ref axmgd, .int vxmgs])), (axmgd, .inl (cy, 8, .inl fxmgd)), (axmc, .inl (cy, 36, .inl fxmc))] s.heap := hP
  obtain ⟨locs, hlocs⟩ : ∃ lc : List Loc, lc = [] := ⟨_, rfl⟩
  rw [← hlocs] at hS ⊢
  obtain ⟨H, hH⟩ : ∃ H : Heap, H = s.heap := ⟨_, rfl⟩
  have hP2 := hP; rw [← hH] at hP2
  have hS2 : va_S A s.heap H locs := by rw [hH]; exact hS
  suffices hgo : W p l e (headSpec wsX4_worst ({ frames := 5, cells := 0, slots := 0, locals := 123 })).room s m (([.ref ax, .int p0, .int p1, .int p2, .int p3] : List Value).toArray) below meth c H locs 0 0 (MQ below (va_Qi (fun (r : Int32) (_ : Unit) => r = res.1) (QW (dC, dI) cy A [(ax, .inr (4, [.ref axr, .ref axt, .ref axm, .ref axb, .ref axe, .int vxk])), (axr, .inr (2, [.ref axrd, .int vxrs])), (axt, .inr (2, [.ref axtd, .int res.2.1])), (axtd, .inl (cy, 8, .inl res.2.2.1)), (axm, .inr (0, [.ref axmn, .ref axmg, .ref axmc])), (axmn, .inr (2, [.ref axmnd, .int res.2.2.2.1])), (axmnd, .inl (cy, 8, .inl res.2.2.2.2.1)), (axmg, .inr (2, [.ref axmgd, .int res.2.2.2.2.2.1])), (axmgd, .inl (cy, 8, .inl res.2.2.2.2.2.2.1)), (axmc, .inl (cy, 36, .inl res.2.2.2.2.2.2.2))]) A) (([.ref ax, .int p0, .int p1, .int p2, .int p3] : List Value).toArray) s 0 0 A) (F0 m 0 ls []) by rw [hH] at hgo; exact hgo
  replace hP := hP2
  replace hS := hS2
  clear hP2 hS2
  have hin_X2 : ∀ w ∈ wsX20, w ∈ wsX4_worst := by decide +kernel
  have hin_X4 : ∀ w ∈ wsX40, w ∈ wsX4_worst := by decide +kernel
  have hf_10 := hts (.fieldLink RX4 10 "FewLooks" "row" "LFewLooks$Row;") (by decide +kernel)
  have hf_16 := hts (.fieldLink RX4 16 "FewLooks" "trial" "LFewLooks$Row;") (by decide +kernel)
  unfold fX4_worst at h
  refine lv_iload_n hx hb dX4_worst_0 rfl (lv_at hl 1 rfl) ?_
  obtain ⟨r1, hr1, h⟩ := bd_some h
  have hFc := va_free (wc := []) hD hS hA [] rfl
  refine va_calli (va_runS (As := [.int p0]) (rest := []) ⟨hx, hb, hml, hown, hts⟩ (c_X4_isRow l dC dI cy  H.size  p0 r1 hr1) (va_cwS 1 hts gX4_worst_X4_isRow rfl rfl rfl (by decide +kernel) ⟨Nat.le_of_ble_eq_true rfl, Nat.le_of_ble_eq_true rfl⟩) ⟨PW_fb, PW_pre (hP.sub (ws' := []) [] rfl) hK (hD.sub [] (by decide) rfl) hN⟩ rfl rfl hl.1 rfl (lv_room (Nat.le_of_ble_eq_true rfl)) dX4_worst_1 ⟨Nat.zero_le _, Nat.zero_le _⟩) hS (fun q _ h => hFc q h) hFc (fun rz u t H locs ht hvm hw hB hz1 hk1 hS => ?_)
  obtain ⟨hP, hD⟩ := jn (wr := [(ax, .inr (4, [.ref axr, .ref axt, .ref axm, .ref axb, .ref axe, .int vxk])), (axr, .inr (2, [.ref axrd, .int vxrs])), (axt, .inr (2, [.ref axtd, .int vxts])), (axtd, .inl (cy, 8, .inl fxtd)), (axm, .inr (0, [.ref axmn, .ref axmg, .ref axmc])), (axmn, .inr (2, [.ref axmnd, .int vxmns])), (axmnd, .inl (cy, 8, .inl fxmnd)), (axmg, .inr (2, [.ref axmgd, .int vxmgs])), (axmgd, .inl (cy, 8, .inl fxmgd)), (axmc, .inl (cy, 36, .inl fxmc))]) (w1 := []) (ws' := [(ax, .inr (4, [.ref axr, .ref axt, .ref axm, .ref axb, .ref axe, .int vxk])), (axr, .inr (2, [.ref axrd, .int vxrs])), (axt, .inr (2, [.ref axtd, .int vxts])), (axtd, .inl (cy, 8, .inl fxtd)), (axm, .inr (0, [.ref axmn, .ref axmg, .ref axmc])), (axmn, .inr (2, [.ref axmnd, .int vxmns])), (axmnd, .inl (cy, 8, .inl fxmnd)), (axmg, .inr (2, [.ref axmgd, .int vxmgs])), (axmgd, .inl (cy, 8, .inl fxmgd)), (axmc, .inl (cy, 36, .inl fxmc))]) hP hD [] [0, 1, 2, 3, 4, 5, 6, 7, 8, 9] rfl rfl (by decide) (by decide) hk1 hFc hB ht [0, 1, 2, 3, 4, 5, 6, 7, 8, 9] rfl (by decide) rfl
  obtain ⟨hw, br1⟩ := hw
  replace hw := hw.symm
  subst hw
  clear hFc hB hk1 hz1 hvm
  refine lv_if_eq (tgt := 27) hx hb dX4_worst_4 (by decide) (fun c17 => ?_) (fun c17 => ?_)
  · rw [if_pos c17] at h
    refine lv_bipush (v := (-2 : Int32)) hx hb dX4_worst_27 (by decide) ?_
    have h0 := Option.some.inj h
    subst h0
    exact W.iret hx hb hr (fun t ht hW => ⟨⟨_, (), rfl, rfl, QW_mk hP hK hD ht hW⟩, hS.F ht⟩) hS.2.2 dX4_worst_29
  · rw [if_neg c17] at h
    refine lv_iload_n hx hb dX4_worst_7 rfl (lv_at hl 2 rfl) ?_
    refine lv_iconst (v := (0 : Int32)) hx hb dX4_worst_8 (by decide) ?_
    refine lv_bipush (v := (8 : Int32)) hx hb dX4_worst_9 (by decide) ?_
    obtain ⟨r2, hr2, h⟩ := bd_some h
    have hFc := va_free (wc := []) hD hS hA [] rfl
    refine va_calli (va_runS (As := [.int p1, .int (0 : Int32), .int (8 : Int32)]) (rest := []) ⟨hx, hb, hml, hown, hts⟩ (c_X4_within l dC dI cy  H.size  p1 (0 : Int32) (8 : Int32) r2 hr2) (va_cwS 3 hts gX4_worst_X4_within rfl rfl rfl (by decide +kernel) ⟨Nat.le_of_ble_eq_true rfl, Nat.le_of_ble_eq_true rfl⟩) ⟨PW_fb, PW_pre (hP.sub (ws' := []) [] rfl) hK (hD.sub [] (by decide) rfl) hN⟩ rfl rfl hl.1 rfl (lv_room (Nat.le_of_ble_eq_true rfl)) dX4_worst_11 ⟨Nat.zero_le _, Nat.zero_le _⟩) hS (fun q _ h => hFc q h) hFc (fun rz u t H locs ht hvm hw hB hz1 hk1 hS => ?_)
    obtain ⟨hP, hD⟩ := jn (wr := [(ax, .inr (4, [.ref axr, .ref axt, .ref axm, .ref axb, .ref axe, .int vxk])), (axr, .inr (2, [.ref axrd, .int vxrs])), (axt, .inr (2, [.ref axtd, .int vxts])), (axtd, .inl (cy, 8, .inl fxtd)), (axm, .inr (0, [.ref axmn, .ref axmg, .ref axmc])), (axmn, .inr (2, [.ref axmnd, .int vxmns])), (axmnd, .inl (cy, 8, .inl fxmnd)), (axmg, .inr (2, [.ref axmgd, .int vxmgs])), (axmgd, .inl (cy, 8, .inl fxmgd)), (axmc, .inl (cy, 36, .inl fxmc))]) (w1 := []) (ws' := [(ax, .inr (4, [.ref axr, .ref axt, .ref axm, .ref axb, .ref axe, .int vxk])), (axr, .inr (2, [.ref axrd, .int vxrs])), (axt, .inr (2, [.ref axtd, .int vxts])), (axtd, .inl (cy, 8, .inl fxtd)), (axm, .inr (0, [.ref axmn, .ref axmg, .ref axmc])), (axmn, .inr (2, [.ref axmnd, .int vxmns])), (axmnd, .inl (cy, 8, .inl fxmnd)), (axmg, .inr (2, [.ref axmgd, .int vxmgs])), (axmgd, .inl (cy, 8, .inl fxmgd)), (axmc, .inl (cy, 36, .inl fxmc))]) hP hD [] [0, 1, 2, 3, 4, 5, 6, 7, 8, 9] rfl rfl (by decide) (by decide) hk1 hFc hB ht [0, 1, 2, 3, 4, 5, 6, 7, 8, 9] rfl (by decide) rfl
    obtain ⟨hw, br2⟩ := hw
    replace hw := hw.symm
    subst hw
    clear hFc hB hk1 hz1 hvm
    refine lv_if_eq (tgt := 27) hx hb dX4_worst_14 (by decide) (fun c16 => ?_) (fun c16 => ?_)
    · rw [if_pos c16] at h
      refine lv_bipush (v := (-2 : Int32)) hx hb dX4_worst_27 (by decide) ?_
      have h0 := Option.some.inj h
      subst h0
      exact W.iret hx hb hr (fun t ht hW => ⟨⟨_, (), rfl, rfl, QW_mk hP hK hD ht hW⟩, hS.F ht⟩) hS.2.2 dX4_worst_29
    · rw [if_neg c16] at h
      refine lv_iload hx hb dX4_worst_17 (lv_at hl 4 rfl) ?_
      refine lv_iconst (v := (0 : Int32)) hx hb dX4_worst_19 (by decide) ?_
      refine lv_iconst (v := (2 : Int32)) hx hb dX4_worst_20 (by decide) ?_
      obtain ⟨r3, hr3, h⟩ := bd_some h
      have hFc := va_free (wc := []) hD hS hA [] rfl
      refine va_calli (va_runS (As := [.int p3, .int (0 : Int32), .int (2 : Int32)]) (rest := []) ⟨hx, hb, hml, hown, hts⟩ (c_X4_within l dC dI cy  H.size  p3 (0 : Int32) (2 : Int32) r3 hr3) (va_cwS 3 hts gX4_worst_X4_within rfl rfl rfl (by decide +kernel) ⟨Nat.le_of_ble_eq_true rfl, Nat.le_of_ble_eq_true rfl⟩) ⟨PW_fb, PW_pre (hP.sub (ws' := []) [] rfl) hK (hD.sub [] (by decide) rfl) hN⟩ rfl rfl hl.1 rfl (lv_room (Nat.le_of_ble_eq_true rfl)) dX4_worst_21 ⟨Nat.zero_le _, Nat.zero_le _⟩) hS (fun q _ h => hFc q h) hFc (fun rz u t H locs ht hvm hw hB hz1 hk1 hS => ?_)
      obtain ⟨hP, hD⟩ := jn (wr := [(ax, .inr (4, [.ref axr, .ref axt, .ref axm, .ref axb, .ref axe, .int vxk])), (axr, .inr (2, [.ref axrd, .int vxrs])), (axt, .inr (2, [.ref axtd, .int vxts])), (axtd, .inl (cy, 8, .inl fxtd)), (axm, .inr (0, [.ref axmn, .ref axmg, .ref axmc])), (axmn, .inr (2, [.ref axmnd, .int vxmns])), (axmnd, .inl (cy, 8, .inl fxmnd)), (axmg, .inr (2, [.ref axmgd, .int vxmgs])), (axmgd, .inl (cy, 8, .inl fxmgd)), (axmc, .inl (cy, 36, .inl fxmc))]) (w1 := []) (ws' := [(ax, .inr (4, [.ref axr, .ref axt, .ref axm, .ref axb, .ref axe, .int vxk])), (axr, .inr (2, [.ref axrd, .int vxrs])), (axt, .inr (2, [.ref axtd, .int vxts])), (axtd, .inl (cy, 8, .inl fxtd)), (axm, .inr (0, [.ref axmn, .ref axmg, .ref axmc])), (axmn, .inr (2, [.ref axmnd, .int vxmns])), (axmnd, .inl (cy, 8, .inl fxmnd)), (axmg, .inr (2, [.ref axmgd, .int vxmgs])), (axmgd, .inl (cy, 8, .inl fxmgd)), (axmc, .inl (cy, 36, .inl fxmc))]) hP hD [] [0, 1, 2, 3, 4, 5, 6, 7, 8, 9] rfl rfl (by decide) (by decide) hk1 hFc hB ht [0, 1, 2, 3, 4, 5, 6, 7, 8, 9] rfl (by decide) rfl
      obtain ⟨hw, br3⟩ := hw
      replace hw := hw.symm
      subst hw
      clear hFc hB hk1 hz1 hvm
      refine lv_if_ne (tgt := 30) hx hb dX4_worst_24 (by decide) (fun c15 => ?_) (fun c15 => ?_)
      · rw [if_neg c15] at h
        refine lv_iload_n hx hb dX4_worst_30 rfl (lv_at hl 3 rfl) ?_
        refine lv_iconst (v := (0 : Int32)) hx hb dX4_worst_31 (by decide) ?_
        refine lv_iload hx hb dX4_worst_32 (lv_at hl 4 rfl) ?_
        obtain ⟨q4, hq4, h⟩ := bd_some h
        have Jq4 : ∀ (H : Heap) (locs : List Loc) (ls : Array Slot), lv_has ls 6 [(0, .ref ax), (1, .int p0), (2, .int p1), (3, .int p2), (4, .int p3)] → va_P (dC, dI) vwCl [(ax, .inr (4, [.ref axr, .ref axt, .ref axm, .ref axb, .ref axe, .int vxk])), (axr, .inr (2, [.ref axrd, .int vxrs])), (axt, .inr (2, [.ref axtd, .int vxts])), (axtd, .inl (cy, 8, .inl fxtd)), (axm, .inr (0, [.ref axmn, .ref axmg, .ref axmc])), (axmn, .inr (2, [.ref axmnd, .int vxmns])), (axmnd, .inl (cy, 8, .inl fxmnd)), (axmg, .inr (2, [.ref axmgd, .int vxmgs])), (axmgd, .inl (cy, 8, .inl fxmgd)), (axmc, .inl (cy, 36, .inl fxmc))] H → va_D A [(ax, .inr (4, [.ref axr, .ref axt, .ref axm, .ref axb, .ref axe, .int vxk])), (axr, .inr (2, [.ref axrd, .int vxrs])), (axt, .inr (2, [.ref axtd, .int vxts])), (axtd, .inl (cy, 8, .inl fxtd)), (axm, .inr (0, [.ref axmn, .ref axmg, .ref axmc])), (axmn, .inr (2, [.ref axmnd, .int vxmns])), (axmnd, .inl (cy, 8, .inl fxmnd)), (axmg, .inr (2, [.ref axmgd, .int vxmgs])), (axmgd, .inl (cy, 8, .inl fxmgd)), (axmc, .inl (cy, 36, .inl fxmc))] → va_S A s.heap H locs → W p l e (headSpec wsX4_worst ({ frames := 5, cells := 0, slots := 0, locals := 123 })).room s m (([.ref ax, .int p0, .int p1, .int p2, .int p3] : List Value).toArray) below meth c H locs 0 0 (MQ below (va_Qi (fun (r : Int32) (_ : Unit) => r = res.1) (QW (dC, dI) cy A [(ax, .inr (4, [.ref axr, .ref axt, .ref axm, .ref axb, .ref axe, .int vxk])), (axr, .inr (2, [.ref axrd, .int vxrs])), (axt, .inr (2, [.ref axtd, .int res.2.1])), (axtd, .inl (cy, 8, .inl res.2.2.1)), (axm, .inr (0, [.ref axmn, .ref axmg, .ref axmc])), (axmn, .inr (2, [.ref axmnd, .int res.2.2.2.1])), (axmnd, .inl (cy, 8, .inl res.2.2.2.2.1)), (axmg, .inr (2, [.ref axmgd, .int res.2.2.2.2.2.1])), (axmgd, .inl (cy, 8, .inl res.2.2.2.2.2.2.1)), (axmc, .inl (cy, 36, .inl res.2.2.2.2.2.2.2))]) A) (([.ref ax, .int p0, .int p1, .int p2, .int p3] : List Value).toArray) s 0 0 A) (F0 m 50 ls [.int q4, .int (0 : Int32), .int p2]) := by
          intro H locs ls hl hP hD hS
          obtain ⟨r6, hr6, h⟩ := bd_some h
          have hFc := va_free (wc := []) hD hS hA [] rfl
          refine va_calli (va_runS (As := [.int p2, .int (0 : Int32), .int q4]) (rest := []) ⟨hx, hb, hml, hown, hts⟩ (c_X4_within l dC dI cy  H.size  p2 (0 : Int32) q4 r6 hr6) (va_cwS 3 hts gX4_worst_X4_within rfl rfl rfl (by decide +kernel) ⟨Nat.le_of_ble_eq_true rfl, Nat.le_of_ble_eq_true rfl⟩) ⟨PW_fb, PW_pre (hP.sub (ws' := []) [] rfl) hK (hD.sub [] (by decide) rfl) hN⟩ rfl rfl hl.1 rfl (lv_room (Nat.le_of_ble_eq_true rfl)) dX4_worst_50 ⟨Nat.zero_le _, Nat.zero_le _⟩) hS (fun q _ h => hFc q h) hFc (fun rz u t H locs ht hvm hw hB hz1 hk1 hS => ?_)
          obtain ⟨hP, hD⟩ := jn (wr := [(ax, .inr (4, [.ref axr, .ref axt, .ref axm, .ref axb, .ref axe, .int vxk])), (axr, .inr (2, [.ref axrd, .int vxrs])), (axt, .inr (2, [.ref axtd, .int vxts])), (axtd, .inl (cy, 8, .inl fxtd)), (axm, .inr (0, [.ref axmn, .ref axmg, .ref axmc])), (axmn, .inr (2, [.ref axmnd, .int vxmns])), (axmnd, .inl (cy, 8, .inl fxmnd)), (axmg, .inr (2, [.ref axmgd, .int vxmgs])), (axmgd, .inl (cy, 8, .inl fxmgd)), (axmc, .inl (cy, 36, .inl fxmc))]) (w1 := []) (ws' := [(ax, .inr (4, [.ref axr, .ref axt, .ref axm, .ref axb, .ref axe, .int vxk])), (axr, .inr (2, [.ref axrd, .int vxrs])), (axt, .inr (2, [.ref axtd, .int vxts])), (axtd, .inl (cy, 8, .inl fxtd)), (axm, .inr (0, [.ref axmn, .ref axmg, .ref axmc])), (axmn, .inr (2, [.ref axmnd, .int vxmns])), (axmnd, .inl (cy, 8, .inl fxmnd)), (axmg, .inr (2, [.ref axmgd, .int vxmgs])), (axmgd, .inl (cy, 8, .inl fxmgd)), (axmc, .inl (cy, 36, .inl fxmc))]) hP hD [] [0, 1, 2, 3, 4, 5, 6, 7, 8, 9] rfl rfl (by decide) (by decide) hk1 hFc hB ht [0, 1, 2, 3, 4, 5, 6, 7, 8, 9] rfl (by decide) rfl
          obtain ⟨hw, br6⟩ := hw
          replace hw := hw.symm
          subst hw
          clear hFc hB hk1 hz1 hvm
          refine lv_if_ne (tgt := 59) hx hb dX4_worst_53 (by decide) (fun c14 => ?_) (fun c14 => ?_)
          · rw [if_neg c14] at h
            refine lv_aload_n hx hb dX4_worst_59 rfl (lv_at hl 0 rfl) ?_
            refine lv_iload_n hx hb dX4_worst_60 rfl (lv_at hl 1 rfl) ?_
            refine lv_iload_n hx hb dX4_worst_61 rfl (lv_at hl 2 rfl) ?_
            obtain ⟨r7, hr7, h⟩ := bd_some h
            have hFc := va_free (wc := [(ax, .inr (4, [.ref axr, .ref axt, .ref axm, .ref axb, .ref axe, .int vxk])), (axr, .inr (2, [.ref axrd, .int vxrs])), (axt, .inr (2, [.ref axtd, .int vxts])), (axtd, .inl (cy, 8, .inl fxtd)), (axm, .inr (0, [.ref axmn, .ref axmg, .ref axmc])), (axmn, .inr (2, [.ref axmnd, .int vxmns])), (axmnd, .inl (cy, 8, .inl fxmnd)), (axmg, .inr (2, [.ref axmgd, .int vxmgs])), (axmgd, .inl (cy, 8, .inl fxmgd)), (axmc, .inl (cy, 36, .inl fxmc))]) hD hS hA [0, 1, 2, 3, 4, 5, 6, 7, 8, 9] rfl
            refine va_calli (va_runV (As := [.int p0, .int p1]) (rest := []) ⟨hx, hb, hml, hown, hts⟩ (c_X4_worstCode l dC dI cy ax axr axt axm axb axe axrd axtd axmn axmg axmc axmnd axmgd H.size vxk vxrs vxts fxtd vxmns fxmnd vxmgs fxmgd fxmc p0 p1 r7 hr7) (cwV 2 hts gX4_worst_X4_worstCode rfl rfl rfl (by decide +kernel) ⟨Nat.le_of_ble_eq_true rfl, Nat.le_of_ble_eq_true rfl⟩) ⟨PW_fb, va_recv hK hP (ci := 4) (q0 := 0) rfl rfl, PW_pre (hP.sub (ws' := [(ax, .inr (4, [.ref axr, .ref axt, .ref axm, .ref axb, .ref axe, .int vxk])), (axr, .inr (2, [.ref axrd, .int vxrs])), (axt, .inr (2, [.ref axtd, .int vxts])), (axtd, .inl (cy, 8, .inl fxtd)), (axm, .inr (0, [.ref axmn, .ref axmg, .ref axmc])), (axmn, .inr (2, [.ref axmnd, .int vxmns])), (axmnd, .inl (cy, 8, .inl fxmnd)), (axmg, .inr (2, [.ref axmgd, .int vxmgs])), (axmgd, .inl (cy, 8, .inl fxmgd)), (axmc, .inl (cy, 36, .inl fxmc))]) [0, 1, 2, 3, 4, 5, 6, 7, 8, 9] rfl) hK (hD.sub [0, 1, 2, 3, 4, 5, 6, 7, 8, 9] (by decide) rfl) hN⟩ rfl rfl hl.1 rfl (lv_room (Nat.le_of_ble_eq_true rfl)) dX4_worst_62 ⟨Nat.zero_le _, Nat.zero_le _⟩) hS (fun q _ h => hFc q h) hFc (fun rz u t H locs ht hvm hw hB hz1 hk1 hS => ?_)
            obtain ⟨hP, hD⟩ := jn (wr := []) (w1 := [(ax, .inr (4, [.ref axr, .ref axt, .ref axm, .ref axb, .ref axe, .int vxk])), (axr, .inr (2, [.ref axrd, .int vxrs])), (axt, .inr (2, [.ref axtd, .int r7.2.1])), (axtd, .inl (cy, 8, .inl r7.2.2.1)), (axm, .inr (0, [.ref axmn, .ref axmg, .ref axmc])), (axmn, .inr (2, [.ref axmnd, .int r7.2.2.2.1])), (axmnd, .inl (cy, 8, .inl r7.2.2.2.2.1)), (axmg, .inr (2, [.ref axmgd, .int r7.2.2.2.2.2.1])), (axmgd, .inl (cy, 8, .inl r7.2.2.2.2.2.2.1)), (axmc, .inl (cy, 36, .inl r7.2.2.2.2.2.2.2))]) (ws' := [(ax, .inr (4, [.ref axr, .ref axt, .ref axm, .ref axb, .ref axe, .int vxk])), (axr, .inr (2, [.ref axrd, .int vxrs])), (axt, .inr (2, [.ref axtd, .int r7.2.1])), (axtd, .inl (cy, 8, .inl r7.2.2.1)), (axm, .inr (0, [.ref axmn, .ref axmg, .ref axmc])), (axmn, .inr (2, [.ref axmnd, .int r7.2.2.2.1])), (axmnd, .inl (cy, 8, .inl r7.2.2.2.2.1)), (axmg, .inr (2, [.ref axmgd, .int r7.2.2.2.2.2.1])), (axmgd, .inl (cy, 8, .inl r7.2.2.2.2.2.2.1)), (axmc, .inl (cy, 36, .inl r7.2.2.2.2.2.2.2))]) hP hD [0, 1, 2, 3, 4, 5, 6, 7, 8, 9] [] rfl rfl (by decide) (by decide) hk1 hFc hB ht [0, 1, 2, 3, 4, 5, 6, 7, 8, 9] rfl (by decide) rfl
            replace hw := hw.symm
            subst hw
            clear hFc hB hk1 hz1 hvm
            refine lv_istore (lv' := [(5, .int r7.1), (0, .ref ax), (1, .int p0), (2, .int p1), (3, .int p2), (4, .int p3)]) hx hb dX4_worst_65 hl (by decide) rfl (fun ls hl => ?_)
            refine lv_iload hx hb dX4_worst_67 (lv_at hl 0 rfl) ?_
            refine lv_iconst (v := (-1 : Int32)) hx hb dX4_worst_69 (by decide) ?_
            refine lv_icmp_ne (tgt := 75) hx hb dX4_worst_70 (by decide) (fun c13 => ?_) (fun c13 => ?_)
            · rw [if_neg c13] at h
              refine lv_aload_n hx hb dX4_worst_75 rfl (lv_at hl 1 rfl) ?_
              refine va_get (D := (dC, dI)) (ci := 4) (v := .ref axt) (C := RX4) (T := TX4) (N := 6) hx hb hts hin_X4 hown hK hP 0 rfl rfl 1 (by decide) (hf_16) (fun _ h9 => h9) rfl dX4_worst_76 ?_
              refine lv_iload hx hb dX4_worst_79 (lv_at hl 0 rfl) ?_
              refine lv_aload_n hx hb dX4_worst_81 rfl (lv_at hl 1 rfl) ?_
              refine va_get (D := (dC, dI)) (ci := 4) (v := .ref axr) (C := RX4) (T := TX4) (N := 6) hx hb hts hin_X4 hown hK hP 0 rfl rfl 0 (by decide) (hf_10) (fun _ h9 => h9) rfl dX4_worst_82 ?_
              refine va_getN (D := (dC, dI)) (ci := 2) (v := .int vxrs) (C := RX2) (T := TX2) (N := 2) hx hb hts hin_X2 hown hK hP 1 rfl rfl 1 (by decide) (va_Nw.use rfl (hN.1)) (fun _ h9 => h9) rfl dX4_worst_85 ?_
              obtain ⟨r8, hr8, h⟩ := bd_some h
              have hFc := va_free (wc := [(axt, .inr (2, [.ref axtd, .int r7.2.1])), (axtd, .inl (cy, 8, .inl r7.2.2.1))]) hD hS hA [2, 3] rfl
              refine va_callv (va_runV (As := [.int r7.1, .int vxrs]) (rest := []) ⟨hx, hb, hml, hown, hts⟩ (c_X2_spell l dC dI cy axt axtd H.size r7.2.1 r7.2.2.1 r7.1 vxrs r8 hr8) (cwV 2 hts gX4_worst_X2_spell rfl rfl rfl (by decide +kernel) ⟨Nat.le_of_ble_eq_true rfl, Nat.le_of_ble_eq_true rfl⟩) ⟨PW_fb, va_recv hK hP (ci := 2) (q0 := 2) rfl rfl, PW_pre (hP.sub (ws' := [(axt, .inr (2, [.ref axtd, .int r7.2.1])), (axtd, .inl (cy, 8, .inl r7.2.2.1))]) [2, 3] rfl) hK (hD.sub [2, 3] (by decide) rfl) hN⟩ rfl rfl hl.1 rfl (lv_room (Nat.le_of_ble_eq_true rfl)) dX4_worst_88 ⟨Nat.zero_le _, Nat.zero_le _⟩) hS (fun q _ h => hFc q h) hFc (fun u t H locs ht hvm hw hB hz1 hk1 hS => ?_)
              obtain ⟨hP, hD⟩ := jn (wr := [(ax, .inr (4, [.ref axr, .ref axt, .ref axm, .ref axb, .ref axe, .int vxk])), (axr, .inr (2, [.ref axrd, .int vxrs])), (axm, .inr (0, [.ref axmn, .ref axmg, .ref axmc])), (axmn, .inr (2, [.ref axmnd, .int r7.2.2.2.1])), (axmnd, .inl (cy, 8, .inl r7.2.2.2.2.1)), (axmg, .inr (2, [.ref axmgd, .int r7.2.2.2.2.2.1])), (axmgd, .inl (cy, 8, .inl r7.2.2.2.2.2.2.1)), (axmc, .inl (cy, 36, .inl r7.2.2.2.2.2.2.2))]) (w1 := [(axt, .inr (2, [.ref axtd, .int r8.1])), (axtd, .inl (cy, 8, .inl r8.2))]) (ws' := [(ax, .inr (4, [.ref axr, .ref axt, .ref axm, .ref axb, .ref axe, .int vxk])), (axr, .inr (2, [.ref axrd, .int vxrs])), (axt, .inr (2, [.ref axtd, .int r8.1])), (axtd, .inl (cy, 8, .inl r8.2)), (axm, .inr (0, [.ref axmn, .ref axmg, .ref axmc])), (axmn, .inr (2, [.ref axmnd, .int r7.2.2.2.1])), (axmnd, .inl (cy, 8, .inl r7.2.2.2.2.1)), (axmg, .inr (2, [.ref axmgd, .int r7.2.2.2.2.2.1])), (axmgd, .inl (cy, 8, .inl r7.2.2.2.2.2.2.1)), (axmc, .inl (cy, 36, .inl r7.2.2.2.2.2.2.2))]) hP hD [2, 3] [0, 1, 4, 5, 6, 7, 8, 9] rfl rfl (by decide) (by decide) hk1 hFc hB ht [0, 1, 8, 9, 2, 3, 4, 5, 6, 7] rfl (by decide) rfl
              clear hFc hB hk1 hz1 hvm
              refine lv_iload hx hb dX4_worst_91 (lv_at hl 5 rfl) ?_
              refine lv_if_ne (tgt := 106) hx hb dX4_worst_93 (by decide) (fun c12 => ?_) (fun c12 => ?_)
              · rw [if_neg c12] at h
                refine lv_aload_n hx hb dX4_worst_106 rfl (lv_at hl 1 rfl) ?_
                refine va_get (D := (dC, dI)) (ci := 4) (v := .ref axt) (C := RX4) (T := TX4) (N := 6) hx hb hts hin_X4 hown hK hP 0 rfl rfl 1 (by decide) (hf_16) (fun _ h9 => h9) rfl dX4_worst_107 ?_
                refine lv_iload_n hx hb dX4_worst_110 rfl (lv_at hl 2 rfl) ?_
                obtain ⟨r9, hr9, h⟩ := bd_some h
                have hFc := va_free (wc := [(axt, .inr (2, [.ref axtd, .int r8.1])), (axtd, .inl (cy, 8, .inl r8.2))]) hD hS hA [2, 3] rfl
                refine va_calli (va_runV (As := [.int p0]) (rest := []) ⟨hx, hb, hml, hown, hts⟩ (c_X2_passing l dC dI cy axt axtd H.size r8.1 r8.2 p0 r9 hr9) (cwV 1 hts gX4_worst_X2_passing rfl rfl rfl (by decide +kernel) ⟨Nat.le_of_ble_eq_true rfl, Nat.le_of_ble_eq_true rfl⟩) ⟨PW_fb, va_recv hK hP (ci := 2) (q0 := 2) rfl rfl, PW_pre (hP.sub (ws' := [(axt, .inr (2, [.ref axtd, .int r8.1])), (axtd, .inl (cy, 8, .inl r8.2))]) [2, 3] rfl) hK (hD.sub [2, 3] (by decide) rfl) hN⟩ rfl rfl hl.1 rfl (lv_room (Nat.le_of_ble_eq_true rfl)) dX4_worst_111 ⟨Nat.zero_le _, Nat.zero_le _⟩) hS (fun q _ h => hFc q h) hFc (fun rz u t H locs ht hvm hw hB hz1 hk1 hS => ?_)
                obtain ⟨hP, hD⟩ := jn (wr := [(ax, .inr (4, [.ref axr, .ref axt, .ref axm, .ref axb, .ref axe, .int vxk])), (axr, .inr (2, [.ref axrd, .int vxrs])), (axm, .inr (0, [.ref axmn, .ref axmg, .ref axmc])), (axmn, .inr (2, [.ref axmnd, .int r7.2.2.2.1])), (axmnd, .inl (cy, 8, .inl r7.2.2.2.2.1)), (axmg, .inr (2, [.ref axmgd, .int r7.2.2.2.2.2.1])), (axmgd, .inl (cy, 8, .inl r7.2.2.2.2.2.2.1)), (axmc, .inl (cy, 36, .inl r7.2.2.2.2.2.2.2))]) (w1 := [(axt, .inr (2, [.ref axtd, .int r8.1])), (axtd, .inl (cy, 8, .inl r8.2))]) (ws' := [(ax, .inr (4, [.ref axr, .ref axt, .ref axm, .ref axb, .ref axe, .int vxk])), (axr, .inr (2, [.ref axrd, .int vxrs])), (axt, .inr (2, [.ref axtd, .int r8.1])), (axtd, .inl (cy, 8, .inl r8.2)), (axm, .inr (0, [.ref axmn, .ref axmg, .ref axmc])), (axmn, .inr (2, [.ref axmnd, .int r7.2.2.2.1])), (axmnd, .inl (cy, 8, .inl r7.2.2.2.2.1)), (axmg, .inr (2, [.ref axmgd, .int r7.2.2.2.2.2.1])), (axmgd, .inl (cy, 8, .inl r7.2.2.2.2.2.2.1)), (axmc, .inl (cy, 36, .inl r7.2.2.2.2.2.2.2))]) hP hD [2, 3] [0, 1, 4, 5, 6, 7, 8, 9] rfl rfl (by decide) (by decide) hk1 hFc hB ht [0, 1, 8, 9, 2, 3, 4, 5, 6, 7] rfl (by decide) rfl
                replace hw := hw.symm
                subst hw
                clear hFc hB hk1 hz1 hvm
                refine lv_aload_n hx hb dX4_worst_114 rfl (lv_at hl 1 rfl) ?_
                refine va_get (D := (dC, dI)) (ci := 4) (v := .ref axt) (C := RX4) (T := TX4) (N := 6) hx hb hts hin_X4 hown hK hP 0 rfl rfl 1 (by decide) (hf_16) (fun _ h9 => h9) rfl dX4_worst_115 ?_
                refine lv_iload_n hx hb dX4_worst_118 rfl (lv_at hl 2 rfl) ?_
                obtain ⟨r10, hr10, h⟩ := bd_some h
                have hFc := va_free (wc := [(axt, .inr (2, [.ref axtd, .int r8.1]))]) hD hS hA [2] rfl
                refine va_calli (va_runV (As := [.int p0]) (rest := [.int r9]) ⟨hx, hb, hml, hown, hts⟩ (c_X2_looks l dC dI cy axt axtd H.size r8.1 p0 r10 hr10) (cwV 1 hts gX4_worst_X2_looks rfl rfl rfl (by decide +kernel) ⟨Nat.le_of_ble_eq_true rfl, Nat.le_of_ble_eq_true rfl⟩) ⟨PW_fb, va_recv hK hP (ci := 2) (q0 := 2) rfl rfl, PW_pre (hP.sub (ws' := [(axt, .inr (2, [.ref axtd, .int r8.1]))]) [2] rfl) hK (hD.sub [2] (by decide) rfl) hN⟩ rfl rfl hl.1 rfl (lv_room (Nat.le_of_ble_eq_true rfl)) dX4_worst_119 ⟨Nat.zero_le _, Nat.zero_le _⟩) hS (fun q _ h => hFc q h) hFc (fun rz u t H locs ht hvm hw hB hz1 hk1 hS => ?_)
                obtain ⟨hP, hD⟩ := jn (wr := [(ax, .inr (4, [.ref axr, .ref axt, .ref axm, .ref axb, .ref axe, .int vxk])), (axr, .inr (2, [.ref axrd, .int vxrs])), (axtd, .inl (cy, 8, .inl r8.2)), (axm, .inr (0, [.ref axmn, .ref axmg, .ref axmc])), (axmn, .inr (2, [.ref axmnd, .int r7.2.2.2.1])), (axmnd, .inl (cy, 8, .inl r7.2.2.2.2.1)), (axmg, .inr (2, [.ref axmgd, .int r7.2.2.2.2.2.1])), (axmgd, .inl (cy, 8, .inl r7.2.2.2.2.2.2.1)), (axmc, .inl (cy, 36, .inl r7.2.2.2.2.2.2.2))]) (w1 := [(axt, .inr (2, [.ref axtd, .int r8.1]))]) (ws' := [(ax, .inr (4, [.ref axr, .ref axt, .ref axm, .ref axb, .ref axe, .int vxk])), (axr, .inr (2, [.ref axrd, .int vxrs])), (axt, .inr (2, [.ref axtd, .int r8.1])), (axtd, .inl (cy, 8, .inl r8.2)), (axm, .inr (0, [.ref axmn, .ref axmg, .ref axmc])), (axmn, .inr (2, [.ref axmnd, .int r7.2.2.2.1])), (axmnd, .inl (cy, 8, .inl r7.2.2.2.2.1)), (axmg, .inr (2, [.ref axmgd, .int r7.2.2.2.2.2.1])), (axmgd, .inl (cy, 8, .inl r7.2.2.2.2.2.2.1)), (axmc, .inl (cy, 36, .inl r7.2.2.2.2.2.2.2))]) hP hD [2] [0, 1, 3, 4, 5, 6, 7, 8, 9] rfl rfl (by decide) (by decide) hk1 hFc hB ht [0, 1, 9, 2, 3, 4, 5, 6, 7, 8] rfl (by decide) rfl
                replace hw := hw.symm
                subst hw
                clear hFc hB hk1 hz1 hvm
                refine lv_iload hx hb dX4_worst_122 (lv_at hl 5 rfl) ?_
                refine lv_iconst (v := (1 : Int32)) hx hb dX4_worst_124 (by decide) ?_
                refine lv_isub hx hb dX4_worst_125 ?_
                obtain ⟨r11, hr11, h⟩ := bd_some h
                have hFc := va_free (wc := []) hD hS hA [] rfl
                refine va_calli (va_runS (As := [.int r9, .int r10, .int (p3 - (1 : Int32))]) (rest := []) ⟨hx, hb, hml, hown, hts⟩ (c_X4_lowestTerm l dC dI cy  H.size  r9 r10 (p3 - (1 : Int32)) r11 hr11) (va_cwS 3 hts gX4_worst_X4_lowestTerm rfl rfl rfl (by decide +kernel) ⟨Nat.le_of_ble_eq_true rfl, Nat.le_of_ble_eq_true rfl⟩) ⟨PW_fb, PW_pre (hP.sub (ws' := []) [] rfl) hK (hD.sub [] (by decide) rfl) hN⟩ rfl rfl hl.1 rfl (lv_room (Nat.le_of_ble_eq_true rfl)) dX4_worst_126 ⟨Nat.zero_le _, Nat.zero_le _⟩) hS (fun q _ h => hFc q h) hFc (fun rz u t H locs ht hvm hw hB hz1 hk1 hS => ?_)
                obtain ⟨hP, hD⟩ := jn (wr := [(ax, .inr (4, [.ref axr, .ref axt, .ref axm, .ref axb, .ref axe, .int vxk])), (axr, .inr (2, [.ref axrd, .int vxrs])), (axt, .inr (2, [.ref axtd, .int r8.1])), (axtd, .inl (cy, 8, .inl r8.2)), (axm, .inr (0, [.ref axmn, .ref axmg, .ref axmc])), (axmn, .inr (2, [.ref axmnd, .int r7.2.2.2.1])), (axmnd, .inl (cy, 8, .inl r7.2.2.2.2.1)), (axmg, .inr (2, [.ref axmgd, .int r7.2.2.2.2.2.1])), (axmgd, .inl (cy, 8, .inl r7.2.2.2.2.2.2.1)), (axmc, .inl (cy, 36, .inl r7.2.2.2.2.2.2.2))]) (w1 := []) (ws' := [(ax, .inr (4, [.ref axr, .ref axt, .ref axm, .ref axb, .ref axe, .int vxk])), (axr, .inr (2, [.ref axrd, .int vxrs])), (axt, .inr (2, [.ref axtd, .int r8.1])), (axtd, .inl (cy, 8, .inl r8.2)), (axm, .inr (0, [.ref axmn, .ref axmg, .ref axmc])), (axmn, .inr (2, [.ref axmnd, .int r7.2.2.2.1])), (axmnd, .inl (cy, 8, .inl r7.2.2.2.2.1)), (axmg, .inr (2, [.ref axmgd, .int r7.2.2.2.2.2.1])), (axmgd, .inl (cy, 8, .inl r7.2.2.2.2.2.2.1)), (axmc, .inl (cy, 36, .inl r7.2.2.2.2.2.2.2))]) hP hD [] [0, 1, 2, 3, 4, 5, 6, 7, 8, 9] rfl rfl (by decide) (by decide) hk1 hFc hB ht [0, 1, 2, 3, 4, 5, 6, 7, 8, 9] rfl (by decide) rfl
                replace hw := hw.symm
                subst hw
                clear hFc hB hk1 hz1 hvm
                have h0 := Option.some.inj h
                subst h0
                exact W.iret hx hb hr (fun t ht hW => ⟨⟨_, (), rfl, rfl, QW_mk hP hK hD ht hW⟩, hS.F ht⟩) hS.2.2 dX4_worst_129
              · rw [if_pos c12] at h
                refine lv_aload_n hx hb dX4_worst_96 rfl (lv_at hl 1 rfl) ?_
                refine va_get (D := (dC, dI)) (ci := 4) (v := .ref axt) (C := RX4) (T := TX4) (N := 6) hx hb hts hin_X4 hown hK hP 0 rfl rfl 1 (by decide) (hf_16) (fun _ h9 => h9) rfl dX4_worst_97 ?_
                refine va_getN (D := (dC, dI)) (ci := 2) (v := .ref axtd) (C := RX2) (T := TX2) (N := 2) hx hb hts hin_X2 hown hK hP 2 rfl rfl 0 (by decide) (va_Nw.use rfl (hN.2.1)) (fun _ h9 => h9) rfl dX4_worst_100 ?_
                refine lv_iload_n hx hb dX4_worst_103 rfl (lv_at hl 4 rfl) ?_
                obtain ⟨hi, h⟩ := gin_some h
                refine va_iald hx hb hK hP 3 0 rfl rfl hi dX4_worst_104 ?_
                have h0 := Option.some.inj h
                subst h0
                exact W.iret hx hb hr (fun t ht hW => ⟨⟨_, (), rfl, rfl, QW_mk hP hK hD ht hW⟩, hS.F ht⟩) hS.2.2 dX4_worst_105
            · rw [if_pos c13] at h
              refine lv_iconst (v := (-1 : Int32)) hx hb dX4_worst_73 (by decide) ?_
              have h0 := Option.some.inj h
              subst h0
              exact W.iret hx hb hr (fun t ht hW => ⟨⟨_, (), rfl, rfl, QW_mk hP hK hD ht hW⟩, hS.F ht⟩) hS.2.2 dX4_worst_74
          · rw [if_pos c14] at h
            refine lv_bipush (v := (-2 : Int32)) hx hb dX4_worst_56 (by decide) ?_
            have h0 := Option.some.inj h
            subst h0
            exact W.iret hx hb hr (fun t ht hW => ⟨⟨_, (), rfl, rfl, QW_mk hP hK hD ht hW⟩, hS.F ht⟩) hS.2.2 dX4_worst_58
        replace h := hq4
        refine lv_if_ne (tgt := 49) hx hb dX4_worst_34 (by decide) (fun c5 => ?_) (fun c5 => ?_)
        · rw [if_neg c5] at h
          refine lv_iconst (v := (0 : Int32)) hx hb dX4_worst_49 (by decide) ?_
          have h0 := Option.some.inj h
          subst h0
          exact Jq4 H locs ls (lv_sub hl [0, 1, 2, 3, 4] rfl) hP hD hS
        · rw [if_pos c5] at h
          refine lv_aload_n hx hb dX4_worst_37 rfl (lv_at hl 0 rfl) ?_
          refine va_get (D := (dC, dI)) (ci := 4) (v := .ref axr) (C := RX4) (T := TX4) (N := 6) hx hb hts hin_X4 hown hK hP 0 rfl rfl 0 (by decide) (hf_10) (fun _ h9 => h9) rfl dX4_worst_38 ?_
          refine va_getN (D := (dC, dI)) (ci := 2) (v := .int vxrs) (C := RX2) (T := TX2) (N := 2) hx hb hts hin_X2 hown hK hP 1 rfl rfl 1 (by decide) (va_Nw.use rfl (hN.1)) (fun _ h9 => h9) rfl dX4_worst_41 ?_
          refine lv_iconst (v := (1 : Int32)) hx hb dX4_worst_44 (by decide) ?_
          refine lv_isub hx hb dX4_worst_45 ?_
          refine lv_goto (tgt := 50) hx hb dX4_worst_46 (by decide) ?_
          have h0 := Option.some.inj h
          subst h0
          exact Jq4 H locs ls (lv_sub hl [0, 1, 2, 3, 4] rfl) hP hD hS
      · rw [if_pos c15] at h
        refine lv_bipush (v := (-2 : Int32)) hx hb dX4_worst_27 (by decide) ?_
        have h0 := Option.some.inj h
        subst h0
        exact W.iret hx hb hr (fun t ht hW => ⟨⟨_, (), rfl, rfl, QW_mk hP hK hD ht hW⟩, hS.F ht⟩) hS.2.2 dX4_worst_29

noncomputable def fX4_mended (vxbb : Int32) (p0 : Int32) (p1 : Int32) : Option (Int32) := bd (fX4_isEntry p0) fun r1 => if r1 = 0 then (some (-2 : Int32)) else (bd (fX4_within p1 (0 : Int32) (1 : Int32)) fun r2 => if r2 = 0 then (some (-2 : Int32)) else (bd (fX3_tellers vxbb p0 p1) fun r3 => some r3))
set_option maxHeartbeats 4000000 in
set_option maxRecDepth 100000 in
theorem c_X4_mended (l : Launch) (dC : Nat → ClassId) (dI : Nat → Nat → Nat) (cy : ClassId) (ax axr axt axm axb axe : Nat) (sz : Nat) (vxk : Int32) (vxbb : Int32) (p0 : Int32) (p1 : Int32) (res : Int32) (h : fX4_mended vxbb p0 p1 = some res) : Met l yX4_mended wsX4_mended ({ frames := 2, cells := 0, slots := 0, locals := 45 }) (va_Pc [.ref ax, .int p0, .int p1] (PW (dC, dI) cy sz [(ax, .inr (4, [.ref axr, .ref axt, .ref axm, .ref axb, .ref axe, .int vxk])), (axb, .inr (3, [.int vxbb]))])) (va_Qi (fun (r : Int32) (_ : Unit) => r = res) (QW (dC, dI) cy (va_A [(ax, .inr (4, [.ref axr, .ref axt, .ref axm, .ref axb, .ref axe, .int vxk])), (axb, .inr (3, [.int vxbb]))] sz) [(ax, .inr (4, [.ref axr, .ref axt, .ref axm, .ref axb, .ref axe, .int vxk])), (axb, .inr (3, [.int vxbb]))]) (va_A [(ax, .inr (4, [.ref axr, .ref axt, .ref axm, .ref axb, .ref axe, .int vxk])), (axb, .inr (3, [.int vxbb]))] sz)) 0 0 (va_A [(ax, .inr (4, [.ref axr, .ref axt, .ref axm, .ref axb, .ref axe, .int vxk])), (axb, .inr (3, [.int vxbb]))] sz) := by
  refine Met.ofW (cc := cX4_mended) (maxL := 3) (ret := (some .int)) (by decide) rfl ?_
  intro p e s m args below meth c s₁ B hml hv
  obtain ⟨rfl, hsz, hP, hK, hD0, hN⟩ := hv
  have hx := B.exec
  have hb := B.bytes
  have hr := B.returns
  have hts := atoms_spec (ws := wsX4_mended) B.pre
  have hown : s.vm.findClass RX4 = some m.cls := findClass_of_methodNamed B.named
  have hlocks := B.notSynchronized
  subst hsz
  have hD := hD0.self (sz := s.heap.size)
  clear hD0
  generalize hAe : va_A [(ax, .inr (4, [.ref axr, .ref axt, .ref axm, .ref axb, .ref axe, .int vxk])), (axb, .inr (3, [.int vxbb]))] s.heap.size = A at hD ⊢
  have hA : ∀ q : Nat, s.heap.size ≤ q → A q := fun q h => by rw [← hAe]; exact Or.inr h
  have hS : va_S A s.heap s.heap [] := va_S.rf
  have hl := lv_entry ([.ref ax, .int p0, .int p1]) (n := 3) (Nat.le_of_ble_eq_true rfl)
  rw [lg_entry_eq]
  generalize (lg_sl ([.ref ax, .int p0, .int p1]) ++ List.replicate (3 - (lg_sl ([.ref ax, .int p0, .int p1])).length) Slot.unset).toArray = ls at hl ⊢
  replace hl : lv_has ls 3 [(0, .ref ax), (1, .int p0), (2, .int p1)] := hl
  replace hP : va_P (dC, dI) vwCl [(ax, .inr (4, [.ref axr, .ref axt, .ref axm, .ref axb, .ref axe, .int vxk])), (axb, .inr (3, [.int vxbb]))] s.heap := hP
  obtain ⟨locs, hlocs⟩ : ∃ lc : List Loc, lc = [] := ⟨_, rfl⟩
  rw [← hlocs] at hS ⊢
  obtain ⟨H, hH⟩ : ∃ H : Heap, H = s.heap := ⟨_, rfl⟩
  have hP2 := hP; rw [← hH] at hP2
  have hS2 : va_S A s.heap H locs := by rw [hH]; exact hS
  suffices hgo : W p l e (headSpec wsX4_mended ({ frames := 2, cells := 0, slots := 0, locals := 45 })).room s m (([.ref ax, .int p0, .int p1] : List Value).toArray) below meth c H locs 0 0 (MQ below (va_Qi (fun (r : Int32) (_ : Unit) => r = res) (QW (dC, dI) cy A [(ax, .inr (4, [.ref axr, .ref axt, .ref axm, .ref axb, .ref axe, .int vxk])), (axb, .inr (3, [.int vxbb]))]) A) (([.ref ax, .int p0, .int p1] : List Value).toArray) s 0 0 A) (F0 m 0 ls []) by rw [hH] at hgo; exact hgo
  replace hP := hP2
  replace hS := hS2
  clear hP2 hS2
  have hin_X4 : ∀ w ∈ wsX40, w ∈ wsX4_mended := by decide +kernel
  have hf_29 := hts (.fieldLink RX4 29 "FewLooks" "table" "LFewLooks$Table;") (by decide +kernel)
  unfold fX4_mended at h
  refine lv_iload_n hx hb dX4_mended_0 rfl (lv_at hl 1 rfl) ?_
  obtain ⟨r1, hr1, h⟩ := bd_some h
  have hFc := va_free (wc := []) hD hS hA [] rfl
  refine va_calli (va_runS (As := [.int p0]) (rest := []) ⟨hx, hb, hml, hown, hts⟩ (c_X4_isEntry l dC dI cy  H.size  p0 r1 hr1) (va_cwS 1 hts gX4_mended_X4_isEntry rfl rfl rfl (by decide +kernel) ⟨Nat.le_of_ble_eq_true rfl, Nat.le_of_ble_eq_true rfl⟩) ⟨PW_fb, PW_pre (hP.sub (ws' := []) [] rfl) hK (hD.sub [] (by decide) rfl) hN⟩ rfl rfl hl.1 rfl (lv_room (Nat.le_of_ble_eq_true rfl)) dX4_mended_1 ⟨Nat.zero_le _, Nat.zero_le _⟩) hS (fun q _ h => hFc q h) hFc (fun rz u t H locs ht hvm hw hB hz1 hk1 hS => ?_)
  obtain ⟨hP, hD⟩ := jn (wr := [(ax, .inr (4, [.ref axr, .ref axt, .ref axm, .ref axb, .ref axe, .int vxk])), (axb, .inr (3, [.int vxbb]))]) (w1 := []) (ws' := [(ax, .inr (4, [.ref axr, .ref axt, .ref axm, .ref axb, .ref axe, .int vxk])), (axb, .inr (3, [.int vxbb]))]) hP hD [] [0, 1] rfl rfl (by decide) (by decide) hk1 hFc hB ht [0, 1] rfl (by decide) rfl
  obtain ⟨hw, br1⟩ := hw
  replace hw := hw.symm
  subst hw
  clear hFc hB hk1 hz1 hvm
  refine lv_if_eq (tgt := 16) hx hb dX4_mended_4 (by decide) (fun c5 => ?_) (fun c5 => ?_)
  · rw [if_pos c5] at h
    refine lv_bipush (v := (-2 : Int32)) hx hb dX4_mended_16 (by decide) ?_
    have h0 := Option.some.inj h
    subst h0
    exact W.iret hx hb hr (fun t ht hW => ⟨⟨_, (), rfl, rfl, QW_mk hP hK hD ht hW⟩, hS.F ht⟩) hS.2.2 dX4_mended_18
  · rw [if_neg c5] at h
    refine lv_iload_n hx hb dX4_mended_7 rfl (lv_at hl 2 rfl) ?_
    refine lv_iconst (v := (0 : Int32)) hx hb dX4_mended_8 (by decide) ?_
    refine lv_iconst (v := (1 : Int32)) hx hb dX4_mended_9 (by decide) ?_
    obtain ⟨r2, hr2, h⟩ := bd_some h
    have hFc := va_free (wc := []) hD hS hA [] rfl
    refine va_calli (va_runS (As := [.int p1, .int (0 : Int32), .int (1 : Int32)]) (rest := []) ⟨hx, hb, hml, hown, hts⟩ (c_X4_within l dC dI cy  H.size  p1 (0 : Int32) (1 : Int32) r2 hr2) (va_cwS 3 hts gX4_mended_X4_within rfl rfl rfl (by decide +kernel) ⟨Nat.le_of_ble_eq_true rfl, Nat.le_of_ble_eq_true rfl⟩) ⟨PW_fb, PW_pre (hP.sub (ws' := []) [] rfl) hK (hD.sub [] (by decide) rfl) hN⟩ rfl rfl hl.1 rfl (lv_room (Nat.le_of_ble_eq_true rfl)) dX4_mended_10 ⟨Nat.zero_le _, Nat.zero_le _⟩) hS (fun q _ h => hFc q h) hFc (fun rz u t H locs ht hvm hw hB hz1 hk1 hS => ?_)
    obtain ⟨hP, hD⟩ := jn (wr := [(ax, .inr (4, [.ref axr, .ref axt, .ref axm, .ref axb, .ref axe, .int vxk])), (axb, .inr (3, [.int vxbb]))]) (w1 := []) (ws' := [(ax, .inr (4, [.ref axr, .ref axt, .ref axm, .ref axb, .ref axe, .int vxk])), (axb, .inr (3, [.int vxbb]))]) hP hD [] [0, 1] rfl rfl (by decide) (by decide) hk1 hFc hB ht [0, 1] rfl (by decide) rfl
    obtain ⟨hw, br2⟩ := hw
    replace hw := hw.symm
    subst hw
    clear hFc hB hk1 hz1 hvm
    refine lv_if_ne (tgt := 19) hx hb dX4_mended_13 (by decide) (fun c4 => ?_) (fun c4 => ?_)
    · rw [if_neg c4] at h
      refine lv_aload_n hx hb dX4_mended_19 rfl (lv_at hl 0 rfl) ?_
      refine va_get (D := (dC, dI)) (ci := 4) (v := .ref axb) (C := RX4) (T := TX4) (N := 6) hx hb hts hin_X4 hown hK hP 0 rfl rfl 3 (by decide) (hf_29) (fun _ h9 => h9) rfl dX4_mended_20 ?_
      refine lv_iload_n hx hb dX4_mended_23 rfl (lv_at hl 1 rfl) ?_
      refine lv_iload_n hx hb dX4_mended_24 rfl (lv_at hl 2 rfl) ?_
      obtain ⟨r3, hr3, h⟩ := bd_some h
      have hFc := va_free (wc := [(axb, .inr (3, [.int vxbb]))]) hD hS hA [1] rfl
      refine va_calli (va_runV (As := [.int p0, .int p1]) (rest := []) ⟨hx, hb, hml, hown, hts⟩ (c_X3_tellers l dC dI cy axb H.size vxbb p0 p1 r3 hr3) (cwV 2 hts gX4_mended_X3_tellers rfl rfl rfl (by decide +kernel) ⟨Nat.le_of_ble_eq_true rfl, Nat.le_of_ble_eq_true rfl⟩) ⟨PW_fb, va_recv hK hP (ci := 3) (q0 := 1) rfl rfl, PW_pre (hP.sub (ws' := [(axb, .inr (3, [.int vxbb]))]) [1] rfl) hK (hD.sub [1] (by decide) rfl) hN⟩ rfl rfl hl.1 rfl (lv_room (Nat.le_of_ble_eq_true rfl)) dX4_mended_25 ⟨Nat.zero_le _, Nat.zero_le _⟩) hS (fun q _ h => hFc q h) hFc (fun rz u t H locs ht hvm hw hB hz1 hk1 hS => ?_)
      obtain ⟨hP, hD⟩ := jn (wr := [(ax, .inr (4, [.ref axr, .ref axt, .ref axm, .ref axb, .ref axe, .int vxk]))]) (w1 := [(axb, .inr (3, [.int vxbb]))]) (ws' := [(ax, .inr (4, [.ref axr, .ref axt, .ref axm, .ref axb, .ref axe, .int vxk])), (axb, .inr (3, [.int vxbb]))]) hP hD [1] [0] rfl rfl (by decide) (by decide) hk1 hFc hB ht [0, 1] rfl (by decide) rfl
      replace hw := hw.symm
      subst hw
      clear hFc hB hk1 hz1 hvm
      have h0 := Option.some.inj h
      subst h0
      exact W.iret hx hb hr (fun t ht hW => ⟨⟨_, (), rfl, rfl, QW_mk hP hK hD ht hW⟩, hS.F ht⟩) hS.2.2 dX4_mended_28
    · rw [if_pos c4] at h
      refine lv_bipush (v := (-2 : Int32)) hx hb dX4_mended_16 (by decide) ?_
      have h0 := Option.some.inj h
      subst h0
      exact W.iret hx hb hr (fun t ht hW => ⟨⟨_, (), rfl, rfl, QW_mk hP hK hD ht hW⟩, hS.F ht⟩) hS.2.2 dX4_mended_18

noncomputable def fX4_isLook (vxk : Int32) (vxrs : Int32) (p0 : Int32) (p1 : Int32) (p2 : Int32) : Option (Int32) := if p0 = (0 : Int32) then (bd (fX4_isPlace vxrs p1) fun r2 => if r2 = 0 then (some (0 : Int32)) else (bd (fX4_isPlace vxrs p2) fun r3 => if r3 = 0 then (some (0 : Int32)) else (if p2 ≤ p1 then (some (0 : Int32)) else (some (1 : Int32))))) else (if p0 = (4 : Int32) then (bd (fX4_isEntry p1) fun r8 => if r8 = 0 then (some (0 : Int32)) else (bd (fX4_isEntry p2) fun r9 => if r9 = 0 then (some (0 : Int32)) else (some (1 : Int32)))) else (if p0 = (5 : Int32) then (bd (fX4_within p1 (0 : Int32) (63 : Int32)) fun r13 => if r13 = 0 then (some (0 : Int32)) else (bd (fJ6_bitCount_0f7a4 p1) fun r14 => if r14 = vxk then (if p2 = 0 then (some (1 : Int32)) else (some (0 : Int32))) else (some (0 : Int32)))) else (some (0 : Int32))))
set_option maxHeartbeats 4000000 in
set_option maxRecDepth 100000 in
theorem c_X4_isLook (l : Launch) (dC : Nat → ClassId) (dI : Nat → Nat → Nat) (cy : ClassId) (ax axr axt axm axb axe axrd : Nat) (sz : Nat) (vxk : Int32) (vxrs : Int32) (p0 : Int32) (p1 : Int32) (p2 : Int32) (res : Int32) (h : fX4_isLook vxk vxrs p0 p1 p2 = some res) : Met l yX4_isLook wsX4_isLook ({ frames := 2, cells := 0, slots := 0, locals := 43 }) (va_Pc [.ref ax, .int p0, .int p1, .int p2] (PW (dC, dI) cy sz [(ax, .inr (4, [.ref axr, .ref axt, .ref axm, .ref axb, .ref axe, .int vxk])), (axr, .inr (2, [.ref axrd, .int vxrs]))])) (va_Qi (fun (r : Int32) (_ : Unit) => r = res ∧ bo r) (QW (dC, dI) cy (va_A [(ax, .inr (4, [.ref axr, .ref axt, .ref axm, .ref axb, .ref axe, .int vxk])), (axr, .inr (2, [.ref axrd, .int vxrs]))] sz) [(ax, .inr (4, [.ref axr, .ref axt, .ref axm, .ref axb, .ref axe, .int vxk])), (axr, .inr (2, [.ref axrd, .int vxrs]))]) (va_A [(ax, .inr (4, [.ref axr, .ref axt, .ref axm, .ref axb, .ref axe, .int vxk])), (axr, .inr (2, [.ref axrd, .int vxrs]))] sz)) 0 0 (va_A [(ax, .inr (4, [.ref axr, .ref axt, .ref axm, .ref axb, .ref axe, .int vxk])), (axr, .inr (2, [.ref axrd, .int vxrs]))] sz) := by
  refine Met.ofW (cc := cX4_isLook) (maxL := 4) (ret := (some .boolean)) (by decide) rfl ?_
  intro p e s m args below meth c s₁ B hml hv
  obtain ⟨rfl, hsz, hP, hK, hD0, hN⟩ := hv
  have hx := B.exec
  have hb := B.bytes
  have hr := B.returns
  have hts := atoms_spec (ws := wsX4_isLook) B.pre
  have hown : s.vm.findClass RX4 = some m.cls := findClass_of_methodNamed B.named
  have hlocks := B.notSynchronized
  subst hsz
  have hD := hD0.self (sz := s.heap.size)
  clear hD0
  generalize hAe : va_A [(ax, .inr (4, [.ref axr, .ref axt, .ref axm, .ref axb, .ref axe, .int vxk])), (axr, .inr (2, [.ref axrd, .int vxrs]))] s.heap.size = A at hD ⊢
  have hA : ∀ q : Nat, s.heap.size ≤ q → A q := fun q h => by rw [← hAe]; exact Or.inr h
  have hS : va_S A s.heap s.heap [] := va_S.rf
  have hl := lv_entry ([.ref ax, .int p0, .int p1, .int p2]) (n := 4) (Nat.le_of_ble_eq_true rfl)
  rw [lg_entry_eq]
  generalize (lg_sl ([.ref ax, .int p0, .int p1, .int p2]) ++ List.replicate (4 - (lg_sl ([.ref ax, .int p0, .int p1, .int p2])).length) Slot.unset).toArray = ls at hl ⊢
  replace hl : lv_has ls 4 [(0, .ref ax), (1, .int p0), (2, .int p1), (3, .int p2)] := hl
  replace hP : va_P (dC, dI) vwCl [(ax, .inr (4, [.ref axr, .ref axt, .ref axm, .ref axb, .ref axe, .int vxk])), (axr, .inr (2, [.ref axrd, .int vxrs]))] s.heap := hP
  obtain ⟨locs, hlocs⟩ : ∃ lc : List Loc, lc = [] := ⟨_, rfl⟩
  rw [← hlocs] at hS ⊢
  obtain ⟨H, hH⟩ : ∃ H : Heap, H = s.heap := ⟨_, rfl⟩
  have hP2 := hP; rw [← hH] at hP2
  have hS2 : va_S A s.heap H locs := by rw [hH]; exact hS
  suffices hgo : W p l e (headSpec wsX4_isLook ({ frames := 2, cells := 0, slots := 0, locals := 43 })).room s m (([.ref ax, .int p0, .int p1, .int p2] : List Value).toArray) below meth c H locs 0 0 (MQ below (va_Qi (fun (r : Int32) (_ : Unit) => r = res ∧ bo r) (QW (dC, dI) cy A [(ax, .inr (4, [.ref axr, .ref axt, .ref axm, .ref axb, .ref axe, .int vxk])), (axr, .inr (2, [.ref axrd, .int vxrs]))]) A) (([.ref ax, .int p0, .int p1, .int p2] : List Value).toArray) s 0 0 A) (F0 m 0 ls []) by rw [hH] at hgo; exact hgo
  replace hP := hP2
  replace hS := hS2
  clear hP2 hS2
  have hin_X4 : ∀ w ∈ wsX40, w ∈ wsX4_isLook := by decide +kernel
  have hf_40 := hts (.fieldLink RX4 40 "FewLooks" "drawn" "I") (by decide +kernel)
  unfold fX4_isLook at h
  refine lv_iload_n hx hb dX4_isLook_0 rfl (lv_at hl 1 rfl) ?_
  by_cases c1 : p0 = (0 : Int32)
  · rw [if_pos c1] at h
    have ec1 : (p0).toInt = 0 := by rw [c1]; rfl
    refine lv_lookup (tgt := 36) hx hb dX4_isLook_1 (by decide) (by rw [ec1] <;> rfl) (by decide) ?_
    refine lv_aload_n hx hb dX4_isLook_36 rfl (lv_at hl 0 rfl) ?_
    refine lv_iload_n hx hb dX4_isLook_37 rfl (lv_at hl 2 rfl) ?_
    obtain ⟨r2, hr2, h⟩ := bd_some h
    have hFc := va_free (wc := [(ax, .inr (4, [.ref axr, .ref axt, .ref axm, .ref axb, .ref axe, .int vxk])), (axr, .inr (2, [.ref axrd, .int vxrs]))]) hD hS hA [0, 1] rfl
    refine va_calli (va_runV (As := [.int p1]) (rest := []) ⟨hx, hb, hml, hown, hts⟩ (c_X4_isPlace l dC dI cy ax axr axt axm axb axe axrd H.size vxk vxrs p1 r2 hr2) (cwV 1 hts gX4_isLook_X4_isPlace rfl rfl rfl (by decide +kernel) ⟨Nat.le_of_ble_eq_true rfl, Nat.le_of_ble_eq_true rfl⟩) ⟨PW_fb, va_recv hK hP (ci := 4) (q0 := 0) rfl rfl, PW_pre (hP.sub (ws' := [(ax, .inr (4, [.ref axr, .ref axt, .ref axm, .ref axb, .ref axe, .int vxk])), (axr, .inr (2, [.ref axrd, .int vxrs]))]) [0, 1] rfl) hK (hD.sub [0, 1] (by decide) rfl) hN⟩ rfl rfl hl.1 rfl (lv_room (Nat.le_of_ble_eq_true rfl)) dX4_isLook_38 ⟨Nat.zero_le _, Nat.zero_le _⟩) hS (fun q _ h => hFc q h) hFc (fun rz u t H locs ht hvm hw hB hz1 hk1 hS => ?_)
    obtain ⟨hP, hD⟩ := jn (wr := []) (w1 := [(ax, .inr (4, [.ref axr, .ref axt, .ref axm, .ref axb, .ref axe, .int vxk])), (axr, .inr (2, [.ref axrd, .int vxrs]))]) (ws' := [(ax, .inr (4, [.ref axr, .ref axt, .ref axm, .ref axb, .ref axe, .int vxk])), (axr, .inr (2, [.ref axrd, .int vxrs]))]) hP hD [0, 1] [] rfl rfl (by decide) (by decide) hk1 hFc hB ht [0, 1] rfl (by decide) rfl
    obtain ⟨hw, br2⟩ := hw
    replace hw := hw.symm
    subst hw
    clear hFc hB hk1 hz1 hvm
    refine lv_if_eq (tgt := 61) hx hb dX4_isLook_41 (by decide) (fun c6 => ?_) (fun c6 => ?_)
    · rw [if_pos c6] at h
      refine lv_iconst (v := (0 : Int32)) hx hb dX4_isLook_61 (by decide) ?_
      have h0 := Option.some.inj h
      subst h0
      exact W.zret (ty := .boolean) hx hb hr bo_0 (fun t ht hW => ⟨⟨_, (), rfl, ⟨rfl, bo_0⟩, QW_mk hP hK hD ht hW⟩, hS.F ht⟩) hS.2.2 dX4_isLook_62
    · rw [if_neg c6] at h
      refine lv_aload_n hx hb dX4_isLook_44 rfl (lv_at hl 0 rfl) ?_
      refine lv_iload_n hx hb dX4_isLook_45 rfl (lv_at hl 3 rfl) ?_
      obtain ⟨r3, hr3, h⟩ := bd_some h
      have hFc := va_free (wc := [(ax, .inr (4, [.ref axr, .ref axt, .ref axm, .ref axb, .ref axe, .int vxk])), (axr, .inr (2, [.ref axrd, .int vxrs]))]) hD hS hA [0, 1] rfl
      refine va_calli (va_runV (As := [.int p2]) (rest := []) ⟨hx, hb, hml, hown, hts⟩ (c_X4_isPlace l dC dI cy ax axr axt axm axb axe axrd H.size vxk vxrs p2 r3 hr3) (cwV 1 hts gX4_isLook_X4_isPlace rfl rfl rfl (by decide +kernel) ⟨Nat.le_of_ble_eq_true rfl, Nat.le_of_ble_eq_true rfl⟩) ⟨PW_fb, va_recv hK hP (ci := 4) (q0 := 0) rfl rfl, PW_pre (hP.sub (ws' := [(ax, .inr (4, [.ref axr, .ref axt, .ref axm, .ref axb, .ref axe, .int vxk])), (axr, .inr (2, [.ref axrd, .int vxrs]))]) [0, 1] rfl) hK (hD.sub [0, 1] (by decide) rfl) hN⟩ rfl rfl hl.1 rfl (lv_room (Nat.le_of_ble_eq_true rfl)) dX4_isLook_46 ⟨Nat.zero_le _, Nat.zero_le _⟩) hS (fun q _ h => hFc q h) hFc (fun rz u t H locs ht hvm hw hB hz1 hk1 hS => ?_)
      obtain ⟨hP, hD⟩ := jn (wr := []) (w1 := [(ax, .inr (4, [.ref axr, .ref axt, .ref axm, .ref axb, .ref axe, .int vxk])), (axr, .inr (2, [.ref axrd, .int vxrs]))]) (ws' := [(ax, .inr (4, [.ref axr, .ref axt, .ref axm, .ref axb, .ref axe, .int vxk])), (axr, .inr (2, [.ref axrd, .int vxrs]))]) hP hD [0, 1] [] rfl rfl (by decide) (by decide) hk1 hFc hB ht [0, 1] rfl (by decide) rfl
      obtain ⟨hw, br3⟩ := hw
      replace hw := hw.symm
      subst hw
      clear hFc hB hk1 hz1 hvm
      refine lv_if_eq (tgt := 61) hx hb dX4_isLook_49 (by decide) (fun c5 => ?_) (fun c5 => ?_)
      · rw [if_pos c5] at h
        refine lv_iconst (v := (0 : Int32)) hx hb dX4_isLook_61 (by decide) ?_
        have h0 := Option.some.inj h
        subst h0
        exact W.zret (ty := .boolean) hx hb hr bo_0 (fun t ht hW => ⟨⟨_, (), rfl, ⟨rfl, bo_0⟩, QW_mk hP hK hD ht hW⟩, hS.F ht⟩) hS.2.2 dX4_isLook_62
      · rw [if_neg c5] at h
        refine lv_iload_n hx hb dX4_isLook_52 rfl (lv_at hl 2 rfl) ?_
        refine lv_iload_n hx hb dX4_isLook_53 rfl (lv_at hl 3 rfl) ?_
        refine lv_icmp_ge (tgt := 61) hx hb dX4_isLook_54 (by decide) (fun c4 => ?_) (fun c4 => ?_)
        · rw [if_pos c4] at h
          refine lv_iconst (v := (0 : Int32)) hx hb dX4_isLook_61 (by decide) ?_
          have h0 := Option.some.inj h
          subst h0
          exact W.zret (ty := .boolean) hx hb hr bo_0 (fun t ht hW => ⟨⟨_, (), rfl, ⟨rfl, bo_0⟩, QW_mk hP hK hD ht hW⟩, hS.F ht⟩) hS.2.2 dX4_isLook_62
        · rw [if_neg c4] at h
          refine lv_iconst (v := (1 : Int32)) hx hb dX4_isLook_57 (by decide) ?_
          refine lv_goto (tgt := 62) hx hb dX4_isLook_58 (by decide) ?_
          have h0 := Option.some.inj h
          subst h0
          exact W.zret (ty := .boolean) hx hb hr bo_1 (fun t ht hW => ⟨⟨_, (), rfl, ⟨rfl, bo_1⟩, QW_mk hP hK hD ht hW⟩, hS.F ht⟩) hS.2.2 dX4_isLook_62
  · rw [if_neg c1] at h
    by_cases c7 : p0 = (4 : Int32)
    · rw [if_pos c7] at h
      have ec7 : (p0).toInt = 4 := by rw [c7]; rfl
      refine lv_lookup (tgt := 63) hx hb dX4_isLook_1 (by decide) (by rw [ec7] <;> rfl) (by decide) ?_
      refine lv_iload_n hx hb dX4_isLook_63 rfl (lv_at hl 2 rfl) ?_
      obtain ⟨r8, hr8, h⟩ := bd_some h
      have hFc := va_free (wc := []) hD hS hA [] rfl
      refine va_calli (va_runS (As := [.int p1]) (rest := []) ⟨hx, hb, hml, hown, hts⟩ (c_X4_isEntry l dC dI cy  H.size  p1 r8 hr8) (va_cwS 1 hts gX4_isLook_X4_isEntry rfl rfl rfl (by decide +kernel) ⟨Nat.le_of_ble_eq_true rfl, Nat.le_of_ble_eq_true rfl⟩) ⟨PW_fb, PW_pre (hP.sub (ws' := []) [] rfl) hK (hD.sub [] (by decide) rfl) hN⟩ rfl rfl hl.1 rfl (lv_room (Nat.le_of_ble_eq_true rfl)) dX4_isLook_64 ⟨Nat.zero_le _, Nat.zero_le _⟩) hS (fun q _ h => hFc q h) hFc (fun rz u t H locs ht hvm hw hB hz1 hk1 hS => ?_)
      obtain ⟨hP, hD⟩ := jn (wr := [(ax, .inr (4, [.ref axr, .ref axt, .ref axm, .ref axb, .ref axe, .int vxk])), (axr, .inr (2, [.ref axrd, .int vxrs]))]) (w1 := []) (ws' := [(ax, .inr (4, [.ref axr, .ref axt, .ref axm, .ref axb, .ref axe, .int vxk])), (axr, .inr (2, [.ref axrd, .int vxrs]))]) hP hD [] [0, 1] rfl rfl (by decide) (by decide) hk1 hFc hB ht [0, 1] rfl (by decide) rfl
      obtain ⟨hw, br8⟩ := hw
      replace hw := hw.symm
      subst hw
      clear hFc hB hk1 hz1 hvm
      refine lv_if_eq (tgt := 81) hx hb dX4_isLook_67 (by decide) (fun c11 => ?_) (fun c11 => ?_)
      · rw [if_pos c11] at h
        refine lv_iconst (v := (0 : Int32)) hx hb dX4_isLook_81 (by decide) ?_
        have h0 := Option.some.inj h
        subst h0
        exact W.zret (ty := .boolean) hx hb hr bo_0 (fun t ht hW => ⟨⟨_, (), rfl, ⟨rfl, bo_0⟩, QW_mk hP hK hD ht hW⟩, hS.F ht⟩) hS.2.2 dX4_isLook_82
      · rw [if_neg c11] at h
        refine lv_iload_n hx hb dX4_isLook_70 rfl (lv_at hl 3 rfl) ?_
        obtain ⟨r9, hr9, h⟩ := bd_some h
        have hFc := va_free (wc := []) hD hS hA [] rfl
        refine va_calli (va_runS (As := [.int p2]) (rest := []) ⟨hx, hb, hml, hown, hts⟩ (c_X4_isEntry l dC dI cy  H.size  p2 r9 hr9) (va_cwS 1 hts gX4_isLook_X4_isEntry rfl rfl rfl (by decide +kernel) ⟨Nat.le_of_ble_eq_true rfl, Nat.le_of_ble_eq_true rfl⟩) ⟨PW_fb, PW_pre (hP.sub (ws' := []) [] rfl) hK (hD.sub [] (by decide) rfl) hN⟩ rfl rfl hl.1 rfl (lv_room (Nat.le_of_ble_eq_true rfl)) dX4_isLook_71 ⟨Nat.zero_le _, Nat.zero_le _⟩) hS (fun q _ h => hFc q h) hFc (fun rz u t H locs ht hvm hw hB hz1 hk1 hS => ?_)
        obtain ⟨hP, hD⟩ := jn (wr := [(ax, .inr (4, [.ref axr, .ref axt, .ref axm, .ref axb, .ref axe, .int vxk])), (axr, .inr (2, [.ref axrd, .int vxrs]))]) (w1 := []) (ws' := [(ax, .inr (4, [.ref axr, .ref axt, .ref axm, .ref axb, .ref axe, .int vxk])), (axr, .inr (2, [.ref axrd, .int vxrs]))]) hP hD [] [0, 1] rfl rfl (by decide) (by decide) hk1 hFc hB ht [0, 1] rfl (by decide) rfl
        obtain ⟨hw, br9⟩ := hw
        replace hw := hw.symm
        subst hw
        clear hFc hB hk1 hz1 hvm
        refine lv_if_eq (tgt := 81) hx hb dX4_isLook_74 (by decide) (fun c10 => ?_) (fun c10 => ?_)
        · rw [if_pos c10] at h
          refine lv_iconst (v := (0 : Int32)) hx hb dX4_isLook_81 (by decide) ?_
          have h0 := Option.some.inj h
          subst h0
          exact W.zret (ty := .boolean) hx hb hr bo_0 (fun t ht hW => ⟨⟨_, (), rfl, ⟨rfl, bo_0⟩, QW_mk hP hK hD ht hW⟩, hS.F ht⟩) hS.2.2 dX4_isLook_82
        · rw [if_neg c10] at h
          refine lv_iconst (v := (1 : Int32)) hx hb dX4_isLook_77 (by decide) ?_
          refine lv_goto (tgt := 82) hx hb dX4_isLook_78 (by decide) ?_
          have h0 := Option.some.inj h
          subst h0
          exact W.zret (ty := .boolean) hx hb hr bo_1 (fun t ht hW => ⟨⟨_, (), rfl, ⟨rfl, bo_1⟩, QW_mk hP hK hD ht hW⟩, hS.F ht⟩) hS.2.2 dX4_isLook_82
    · rw [if_neg c7] at h
      by_cases c12 : p0 = (5 : Int32)
      · rw [if_pos c12] at h
        have ec12 : (p0).toInt = 5 := by rw [c12]; rfl
        refine lv_lookup (tgt := 83) hx hb dX4_isLook_1 (by decide) (by rw [ec12] <;> rfl) (by decide) ?_
        refine lv_iload_n hx hb dX4_isLook_83 rfl (lv_at hl 2 rfl) ?_
        refine lv_iconst (v := (0 : Int32)) hx hb dX4_isLook_84 (by decide) ?_
        refine lv_bipush (v := (63 : Int32)) hx hb dX4_isLook_85 (by decide) ?_
        obtain ⟨r13, hr13, h⟩ := bd_some h
        have hFc := va_free (wc := []) hD hS hA [] rfl
        refine va_calli (va_runS (As := [.int p1, .int (0 : Int32), .int (63 : Int32)]) (rest := []) ⟨hx, hb, hml, hown, hts⟩ (c_X4_within l dC dI cy  H.size  p1 (0 : Int32) (63 : Int32) r13 hr13) (va_cwS 3 hts gX4_isLook_X4_within rfl rfl rfl (by decide +kernel) ⟨Nat.le_of_ble_eq_true rfl, Nat.le_of_ble_eq_true rfl⟩) ⟨PW_fb, PW_pre (hP.sub (ws' := []) [] rfl) hK (hD.sub [] (by decide) rfl) hN⟩ rfl rfl hl.1 rfl (lv_room (Nat.le_of_ble_eq_true rfl)) dX4_isLook_87 ⟨Nat.zero_le _, Nat.zero_le _⟩) hS (fun q _ h => hFc q h) hFc (fun rz u t H locs ht hvm hw hB hz1 hk1 hS => ?_)
        obtain ⟨hP, hD⟩ := jn (wr := [(ax, .inr (4, [.ref axr, .ref axt, .ref axm, .ref axb, .ref axe, .int vxk])), (axr, .inr (2, [.ref axrd, .int vxrs]))]) (w1 := []) (ws' := [(ax, .inr (4, [.ref axr, .ref axt, .ref axm, .ref axb, .ref axe, .int vxk])), (axr, .inr (2, [.ref axrd, .int vxrs]))]) hP hD [] [0, 1] rfl rfl (by decide) (by decide) hk1 hFc hB ht [0, 1] rfl (by decide) rfl
        obtain ⟨hw, br13⟩ := hw
        replace hw := hw.symm
        subst hw
        clear hFc hB hk1 hz1 hvm
        refine lv_if_eq (tgt := 112) hx hb dX4_isLook_90 (by decide) (fun c17 => ?_) (fun c17 => ?_)
        · rw [if_pos c17] at h
          refine lv_iconst (v := (0 : Int32)) hx hb dX4_isLook_112 (by decide) ?_
          have h0 := Option.some.inj h
          subst h0
          exact W.zret (ty := .boolean) hx hb hr bo_0 (fun t ht hW => ⟨⟨_, (), rfl, ⟨rfl, bo_0⟩, QW_mk hP hK hD ht hW⟩, hS.F ht⟩) hS.2.2 dX4_isLook_113
        · rw [if_neg c17] at h
          refine lv_iload_n hx hb dX4_isLook_93 rfl (lv_at hl 2 rfl) ?_
          obtain ⟨r14, hr14, h⟩ := bd_some h
          have hFc := va_free (wc := []) hD hS hA [] rfl
          refine va_calli (va_runS (As := [.int p1]) (rest := []) ⟨hx, hb, hml, hown, hts⟩ (c_J6_bitCount_0f7a4 l dC dI cy  H.size  p1 r14 hr14) (va_cwS 1 hts gX4_isLook_J6_bitCount_0f7a4 rfl rfl rfl (by decide +kernel) ⟨Nat.le_of_ble_eq_true rfl, Nat.le_of_ble_eq_true rfl⟩) ⟨PW_fb, PW_pre (hP.sub (ws' := []) [] rfl) hK (hD.sub [] (by decide) rfl) hN⟩ rfl rfl hl.1 rfl (lv_room (Nat.le_of_ble_eq_true rfl)) dX4_isLook_94 ⟨Nat.zero_le _, Nat.zero_le _⟩) hS (fun q _ h => hFc q h) hFc (fun rz u t H locs ht hvm hw hB hz1 hk1 hS => ?_)
          obtain ⟨hP, hD⟩ := jn (wr := [(ax, .inr (4, [.ref axr, .ref axt, .ref axm, .ref axb, .ref axe, .int vxk])), (axr, .inr (2, [.ref axrd, .int vxrs]))]) (w1 := []) (ws' := [(ax, .inr (4, [.ref axr, .ref axt, .ref axm, .ref axb, .ref axe, .int vxk])), (axr, .inr (2, [.ref axrd, .int vxrs]))]) hP hD [] [0, 1] rfl rfl (by decide) (by decide) hk1 hFc hB ht [0, 1] rfl (by decide) rfl
          replace hw := hw.symm
          subst hw
          clear hFc hB hk1 hz1 hvm
          refine lv_aload_n hx hb dX4_isLook_97 rfl (lv_at hl 0 rfl) ?_
          refine va_get (D := (dC, dI)) (ci := 4) (v := .int vxk) (C := RX4) (T := TX4) (N := 6) hx hb hts hin_X4 hown hK hP 0 rfl rfl 5 (by decide) (hf_40) (fun _ h9 => h9) rfl dX4_isLook_98 ?_
          refine lv_icmp_ne (tgt := 112) hx hb dX4_isLook_101 (by decide) (fun c16 => ?_) (fun c16 => ?_)
          · rw [if_neg c16] at h
            refine lv_iconst (v := (0 : Int32)) hx hb dX4_isLook_112 (by decide) ?_
            have h0 := Option.some.inj h
            subst h0
            exact W.zret (ty := .boolean) hx hb hr bo_0 (fun t ht hW => ⟨⟨_, (), rfl, ⟨rfl, bo_0⟩, QW_mk hP hK hD ht hW⟩, hS.F ht⟩) hS.2.2 dX4_isLook_113
          · rw [if_pos c16] at h
            refine lv_iload_n hx hb dX4_isLook_104 rfl (lv_at hl 3 rfl) ?_
            refine lv_if_ne (tgt := 112) hx hb dX4_isLook_105 (by decide) (fun c15 => ?_) (fun c15 => ?_)
            · rw [if_neg c15] at h
              refine lv_iconst (v := (0 : Int32)) hx hb dX4_isLook_112 (by decide) ?_
              have h0 := Option.some.inj h
              subst h0
              exact W.zret (ty := .boolean) hx hb hr bo_0 (fun t ht hW => ⟨⟨_, (), rfl, ⟨rfl, bo_0⟩, QW_mk hP hK hD ht hW⟩, hS.F ht⟩) hS.2.2 dX4_isLook_113
            · rw [if_pos c15] at h
              refine lv_iconst (v := (1 : Int32)) hx hb dX4_isLook_108 (by decide) ?_
              refine lv_goto (tgt := 113) hx hb dX4_isLook_109 (by decide) ?_
              have h0 := Option.some.inj h
              subst h0
              exact W.zret (ty := .boolean) hx hb hr bo_1 (fun t ht hW => ⟨⟨_, (), rfl, ⟨rfl, bo_1⟩, QW_mk hP hK hD ht hW⟩, hS.F ht⟩) hS.2.2 dX4_isLook_113
      · rw [if_neg c12] at h
        refine lv_lookup (tgt := 114) hx hb dX4_isLook_1 (by decide) (lk_out c1 c7 c12) (by decide) ?_
        refine lv_iconst (v := (0 : Int32)) hx hb dX4_isLook_114 (by decide) ?_
        have h0 := Option.some.inj h
        subst h0
        exact W.zret (ty := .boolean) hx hb hr bo_0 (fun t ht hW => ⟨⟨_, (), rfl, ⟨rfl, bo_0⟩, QW_mk hP hK hD ht hW⟩, hS.F ht⟩) hS.2.2 dX4_isLook_115

noncomputable def fX4_fails (fxrd : Nat → Int32) (vxbb : Int32) (fxej : Nat → Int32) (p0 : Int32) (p1 : Int32) (p2 : Int32) : Option (Int32) := if p0 = 0 then (gin p1 8 (gin p2 8 (if (fxrd p1.toNatClampNeg) ≤ (fxrd p2.toNatClampNeg) then (some (0 : Int32)) else (some (1 : Int32))))) else (if p0 = (4 : Int32) then (bd (fX3_agrees vxbb p1 p2) fun r3 => if r3 = 0 then (some (1 : Int32)) else (some (0 : Int32))) else (bd (fX1_twoColoured fxej p1) fun r1 => if r1 = 0 then (some (1 : Int32)) else (some (0 : Int32))))
set_option maxHeartbeats 4000000 in
set_option maxRecDepth 100000 in
theorem c_X4_fails (l : Launch) (dC : Nat → ClassId) (dI : Nat → Nat → Nat) (cy : ClassId) (ax axr axt axm axb axe axrd axej : Nat) (sz : Nat) (vxk : Int32) (vxrs : Int32) (fxrd : Nat → Int32) (vxbb : Int32) (fxej : Nat → Int32) (p0 : Int32) (p1 : Int32) (p2 : Int32) (res : Int32) (h : fX4_fails fxrd vxbb fxej p0 p1 p2 = some res) : Met l yX4_fails wsX4_fails ({ frames := 4, cells := 0, slots := 0, locals := 91 }) (va_Pc [.ref ax, .int p0, .int p1, .int p2] (PW (dC, dI) cy sz [(ax, .inr (4, [.ref axr, .ref axt, .ref axm, .ref axb, .ref axe, .int vxk])), (axr, .inr (2, [.ref axrd, .int vxrs])), (axrd, .inl (cy, 8, .inl fxrd)), (axb, .inr (3, [.int vxbb])), (axe, .inr (1, [.ref axej])), (axej, .inl (cy, 6, .inl fxej))])) (va_Qi (fun (r : Int32) (_ : Unit) => r = res ∧ bo r) (QW (dC, dI) cy (va_A [(ax, .inr (4, [.ref axr, .ref axt, .ref axm, .ref axb, .ref axe, .int vxk])), (axr, .inr (2, [.ref axrd, .int vxrs])), (axrd, .inl (cy, 8, .inl fxrd)), (axb, .inr (3, [.int vxbb])), (axe, .inr (1, [.ref axej])), (axej, .inl (cy, 6, .inl fxej))] sz) [(ax, .inr (4, [.ref axr, .ref axt, .ref axm, .ref axb, .ref axe, .int vxk])), (axr, .inr (2, [.ref axrd, .int vxrs])), (axrd, .inl (cy, 8, .inl fxrd)), (axb, .inr (3, [.int vxbb])), (axe, .inr (1, [.ref axej])), (axej, .inl (cy, 6, .inl fxej))]) (va_A [(ax, .inr (4, [.ref axr, .ref axt, .ref axm, .ref axb, .ref axe, .int vxk])), (axr, .inr (2, [.ref axrd, .int vxrs])), (axrd, .inl (cy, 8, .inl fxrd)), (axb, .inr (3, [.int vxbb])), (axe, .inr (1, [.ref axej])), (axej, .inl (cy, 6, .inl fxej))] sz)) 0 0 (va_A [(ax, .inr (4, [.ref axr, .ref axt, .ref axm, .ref axb, .ref axe, .int vxk])), (axr, .inr (2, [.ref axrd, .int vxrs])), (axrd, .inl (cy, 8, .inl fxrd)), (axb, .inr (3, [.int vxbb])), (axe, .inr (1, [.ref axej])), (axej, .inl (cy, 6, .inl fxej))] sz) := by
  refine Met.ofW (cc := cX4_fails) (maxL := 4) (ret := (some .boolean)) (by decide) rfl ?_
  intro p e s m args below meth c s₁ B hml hv
  obtain ⟨rfl, hsz, hP, hK, hD0, hN⟩ := hv
  have hx := B.exec
  have hb := B.bytes
  have hr := B.returns
  have hts := atoms_spec (ws := wsX4_fails) B.pre
  have hown : s.vm.findClass RX4 = some m.cls := findClass_of_methodNamed B.named
  have hlocks := B.notSynchronized
  subst hsz
  have hD := hD0.self (sz := s.heap.size)
  clear hD0
  generalize hAe : va_A [(ax, .inr (4, [.ref axr, .ref axt, .ref axm, .ref axb, .ref axe, .int vxk])), (axr, .inr (2, [.ref axrd, .int vxrs])), (axrd, .inl (cy, 8, .inl fxrd)), (axb, .inr (3, [.int vxbb])), (axe, .inr (1, [.ref axej])), (axej, .inl (cy, 6, .inl fxej))] s.heap.size = A at hD ⊢
  have hA : ∀ q : Nat, s.heap.size ≤ q → A q := fun q h => by rw [← hAe]; exact Or.inr h
  have hS : va_S A s.heap s.heap [] := va_S.rf
  have hl := lv_entry ([.ref ax, .int p0, .int p1, .int p2]) (n := 4) (Nat.le_of_ble_eq_true rfl)
  rw [lg_entry_eq]
  generalize (lg_sl ([.ref ax, .int p0, .int p1, .int p2]) ++ List.replicate (4 - (lg_sl ([.ref ax, .int p0, .int p1, .int p2])).length) Slot.unset).toArray = ls at hl ⊢
  replace hl : lv_has ls 4 [(0, .ref ax), (1, .int p0), (2, .int p1), (3, .int p2)] := hl
  replace hP : va_P (dC, dI) vwCl [(ax, .inr (4, [.ref axr, .ref axt, .ref axm, .ref axb, .ref axe, .int vxk])), (axr, .inr (2, [.ref axrd, .int vxrs])), (axrd, .inl (cy, 8, .inl fxrd)), (axb, .inr (3, [.int vxbb])), (axe, .inr (1, [.ref axej])), (axej, .inl (cy, 6, .inl fxej))] s.heap := hP
  obtain ⟨locs, hlocs⟩ : ∃ lc : List Loc, lc = [] := ⟨_, rfl⟩
  rw [← hlocs] at hS ⊢
  obtain ⟨H, hH⟩ : ∃ H : Heap, H = s.heap := ⟨_, rfl⟩
  have hP2 := hP; rw [← hH] at hP2
  have hS2 : va_S A s.heap H locs := by rw [hH]; exact hS
  suffices hgo : W p l e (headSpec wsX4_fails ({ frames := 4, cells := 0, slots := 0, locals := 91 })).room s m (([.ref ax, .int p0, .int p1, .int p2] : List Value).toArray) below meth c H locs 0 0 (MQ below (va_Qi (fun (r : Int32) (_ : Unit) => r = res ∧ bo r) (QW (dC, dI) cy A [(ax, .inr (4, [.ref axr, .ref axt, .ref axm, .ref axb, .ref axe, .int vxk])), (axr, .inr (2, [.ref axrd, .int vxrs])), (axrd, .inl (cy, 8, .inl fxrd)), (axb, .inr (3, [.int vxbb])), (axe, .inr (1, [.ref axej])), (axej, .inl (cy, 6, .inl fxej))]) A) (([.ref ax, .int p0, .int p1, .int p2] : List Value).toArray) s 0 0 A) (F0 m 0 ls []) by rw [hH] at hgo; exact hgo
  replace hP := hP2
  replace hS := hS2
  clear hP2 hS2
  have hin_X2 : ∀ w ∈ wsX20, w ∈ wsX4_fails := by decide +kernel
  have hin_X4 : ∀ w ∈ wsX40, w ∈ wsX4_fails := by decide +kernel
  have hf_10 := hts (.fieldLink RX4 10 "FewLooks" "row" "LFewLooks$Row;") (by decide +kernel)
  have hf_29 := hts (.fieldLink RX4 29 "FewLooks" "table" "LFewLooks$Table;") (by decide +kernel)
  have hf_36 := hts (.fieldLink RX4 36 "FewLooks" "net" "LFewLooks$Net;") (by decide +kernel)
  unfold fX4_fails at h
  refine lv_iload_n hx hb dX4_fails_0 rfl (lv_at hl 1 rfl) ?_
  refine lv_if_ne (tgt := 31) hx hb dX4_fails_1 (by decide) (fun c7 => ?_) (fun c7 => ?_)
  · rw [if_neg c7] at h
    refine lv_iload_n hx hb dX4_fails_31 rfl (lv_at hl 1 rfl) ?_
    refine lv_iconst (v := (4 : Int32)) hx hb dX4_fails_32 (by decide) ?_
    refine lv_icmp_ne (tgt := 54) hx hb dX4_fails_33 (by decide) (fun c5 => ?_) (fun c5 => ?_)
    · rw [if_neg c5] at h
      refine lv_aload_n hx hb dX4_fails_54 rfl (lv_at hl 0 rfl) ?_
      refine va_get (D := (dC, dI)) (ci := 4) (v := .ref axe) (C := RX4) (T := TX4) (N := 6) hx hb hts hin_X4 hown hK hP 0 rfl rfl 4 (by decide) (hf_36) (fun _ h9 => h9) rfl dX4_fails_55 ?_
      refine lv_iload_n hx hb dX4_fails_58 rfl (lv_at hl 2 rfl) ?_
      obtain ⟨r1, hr1, h⟩ := bd_some h
      have hFc := va_free (wc := [(axe, .inr (1, [.ref axej])), (axej, .inl (cy, 6, .inl fxej))]) hD hS hA [4, 5] rfl
      refine va_calli (va_runV (As := [.int p1]) (rest := []) ⟨hx, hb, hml, hown, hts⟩ (c_X1_twoColoured l dC dI cy axe axej H.size fxej p1 r1 hr1) (cwV 1 hts gX4_fails_X1_twoColoured rfl rfl rfl (by decide +kernel) ⟨Nat.le_of_ble_eq_true rfl, Nat.le_of_ble_eq_true rfl⟩) ⟨PW_fb, va_recv hK hP (ci := 1) (q0 := 4) rfl rfl, PW_pre (hP.sub (ws' := [(axe, .inr (1, [.ref axej])), (axej, .inl (cy, 6, .inl fxej))]) [4, 5] rfl) hK (hD.sub [4, 5] (by decide) rfl) hN⟩ rfl rfl hl.1 rfl (lv_room (Nat.le_of_ble_eq_true rfl)) dX4_fails_59 ⟨Nat.zero_le _, Nat.zero_le _⟩) hS (fun q _ h => hFc q h) hFc (fun rz u t H locs ht hvm hw hB hz1 hk1 hS => ?_)
      obtain ⟨hP, hD⟩ := jn (wr := [(ax, .inr (4, [.ref axr, .ref axt, .ref axm, .ref axb, .ref axe, .int vxk])), (axr, .inr (2, [.ref axrd, .int vxrs])), (axrd, .inl (cy, 8, .inl fxrd)), (axb, .inr (3, [.int vxbb]))]) (w1 := [(axe, .inr (1, [.ref axej])), (axej, .inl (cy, 6, .inl fxej))]) (ws' := [(ax, .inr (4, [.ref axr, .ref axt, .ref axm, .ref axb, .ref axe, .int vxk])), (axr, .inr (2, [.ref axrd, .int vxrs])), (axrd, .inl (cy, 8, .inl fxrd)), (axb, .inr (3, [.int vxbb])), (axe, .inr (1, [.ref axej])), (axej, .inl (cy, 6, .inl fxej))]) hP hD [4, 5] [0, 1, 2, 3] rfl rfl (by decide) (by decide) hk1 hFc hB ht [0, 1, 2, 3, 4, 5] rfl (by decide) rfl
      obtain ⟨hw, br1⟩ := hw
      replace hw := hw.symm
      subst hw
      clear hFc hB hk1 hz1 hvm
      refine lv_if_ne (tgt := 69) hx hb dX4_fails_62 (by decide) (fun c2 => ?_) (fun c2 => ?_)
      · rw [if_neg c2] at h
        refine lv_iconst (v := (0 : Int32)) hx hb dX4_fails_69 (by decide) ?_
        have h0 := Option.some.inj h
        subst h0
        exact W.zret (ty := .boolean) hx hb hr bo_0 (fun t ht hW => ⟨⟨_, (), rfl, ⟨rfl, bo_0⟩, QW_mk hP hK hD ht hW⟩, hS.F ht⟩) hS.2.2 dX4_fails_70
      · rw [if_pos c2] at h
        refine lv_iconst (v := (1 : Int32)) hx hb dX4_fails_65 (by decide) ?_
        refine lv_goto (tgt := 70) hx hb dX4_fails_66 (by decide) ?_
        have h0 := Option.some.inj h
        subst h0
        exact W.zret (ty := .boolean) hx hb hr bo_1 (fun t ht hW => ⟨⟨_, (), rfl, ⟨rfl, bo_1⟩, QW_mk hP hK hD ht hW⟩, hS.F ht⟩) hS.2.2 dX4_fails_70
    · rw [if_pos c5] at h
      refine lv_aload_n hx hb dX4_fails_36 rfl (lv_at hl 0 rfl) ?_
      refine va_get (D := (dC, dI)) (ci := 4) (v := .ref axb) (C := RX4) (T := TX4) (N := 6) hx hb hts hin_X4 hown hK hP 0 rfl rfl 3 (by decide) (hf_29) (fun _ h9 => h9) rfl dX4_fails_37 ?_
      refine lv_iload_n hx hb dX4_fails_40 rfl (lv_at hl 2 rfl) ?_
      refine lv_iload_n hx hb dX4_fails_41 rfl (lv_at hl 3 rfl) ?_
      obtain ⟨r3, hr3, h⟩ := bd_some h
      have hFc := va_free (wc := [(axb, .inr (3, [.int vxbb]))]) hD hS hA [3] rfl
      refine va_calli (va_runV (As := [.int p1, .int p2]) (rest := []) ⟨hx, hb, hml, hown, hts⟩ (c_X3_agrees l dC dI cy axb H.size vxbb p1 p2 r3 hr3) (cwV 2 hts gX4_fails_X3_agrees rfl rfl rfl (by decide +kernel) ⟨Nat.le_of_ble_eq_true rfl, Nat.le_of_ble_eq_true rfl⟩) ⟨PW_fb, va_recv hK hP (ci := 3) (q0 := 3) rfl rfl, PW_pre (hP.sub (ws' := [(axb, .inr (3, [.int vxbb]))]) [3] rfl) hK (hD.sub [3] (by decide) rfl) hN⟩ rfl rfl hl.1 rfl (lv_room (Nat.le_of_ble_eq_true rfl)) dX4_fails_42 ⟨Nat.zero_le _, Nat.zero_le _⟩) hS (fun q _ h => hFc q h) hFc (fun rz u t H locs ht hvm hw hB hz1 hk1 hS => ?_)
      obtain ⟨hP, hD⟩ := jn (wr := [(ax, .inr (4, [.ref axr, .ref axt, .ref axm, .ref axb, .ref axe, .int vxk])), (axr, .inr (2, [.ref axrd, .int vxrs])), (axrd, .inl (cy, 8, .inl fxrd)), (axe, .inr (1, [.ref axej])), (axej, .inl (cy, 6, .inl fxej))]) (w1 := [(axb, .inr (3, [.int vxbb]))]) (ws' := [(ax, .inr (4, [.ref axr, .ref axt, .ref axm, .ref axb, .ref axe, .int vxk])), (axr, .inr (2, [.ref axrd, .int vxrs])), (axrd, .inl (cy, 8, .inl fxrd)), (axb, .inr (3, [.int vxbb])), (axe, .inr (1, [.ref axej])), (axej, .inl (cy, 6, .inl fxej))]) hP hD [3] [0, 1, 2, 4, 5] rfl rfl (by decide) (by decide) hk1 hFc hB ht [0, 1, 2, 5, 3, 4] rfl (by decide) rfl
      obtain ⟨hw, br3⟩ := hw
      replace hw := hw.symm
      subst hw
      clear hFc hB hk1 hz1 hvm
      refine lv_if_ne (tgt := 52) hx hb dX4_fails_45 (by decide) (fun c4 => ?_) (fun c4 => ?_)
      · rw [if_neg c4] at h
        refine lv_iconst (v := (0 : Int32)) hx hb dX4_fails_52 (by decide) ?_
        have h0 := Option.some.inj h
        subst h0
        exact W.zret (ty := .boolean) hx hb hr bo_0 (fun t ht hW => ⟨⟨_, (), rfl, ⟨rfl, bo_0⟩, QW_mk hP hK hD ht hW⟩, hS.F ht⟩) hS.2.2 dX4_fails_53
      · rw [if_pos c4] at h
        refine lv_iconst (v := (1 : Int32)) hx hb dX4_fails_48 (by decide) ?_
        refine lv_goto (tgt := 53) hx hb dX4_fails_49 (by decide) ?_
        have h0 := Option.some.inj h
        subst h0
        exact W.zret (ty := .boolean) hx hb hr bo_1 (fun t ht hW => ⟨⟨_, (), rfl, ⟨rfl, bo_1⟩, QW_mk hP hK hD ht hW⟩, hS.F ht⟩) hS.2.2 dX4_fails_53
  · rw [if_pos c7] at h
    refine lv_aload_n hx hb dX4_fails_4 rfl (lv_at hl 0 rfl) ?_
    refine va_get (D := (dC, dI)) (ci := 4) (v := .ref axr) (C := RX4) (T := TX4) (N := 6) hx hb hts hin_X4 hown hK hP 0 rfl rfl 0 (by decide) (hf_10) (fun _ h9 => h9) rfl dX4_fails_5 ?_
    refine va_getN (D := (dC, dI)) (ci := 2) (v := .ref axrd) (C := RX2) (T := TX2) (N := 2) hx hb hts hin_X2 hown hK hP 1 rfl rfl 0 (by decide) (va_Nw.use rfl (hN.2.1)) (fun _ h9 => h9) rfl dX4_fails_8 ?_
    refine lv_iload_n hx hb dX4_fails_11 rfl (lv_at hl 2 rfl) ?_
    obtain ⟨hi, h⟩ := gin_some h
    refine va_iald hx hb hK hP 2 0 rfl rfl hi dX4_fails_12 ?_
    refine lv_aload_n hx hb dX4_fails_13 rfl (lv_at hl 0 rfl) ?_
    refine va_get (D := (dC, dI)) (ci := 4) (v := .ref axr) (C := RX4) (T := TX4) (N := 6) hx hb hts hin_X4 hown hK hP 0 rfl rfl 0 (by decide) (hf_10) (fun _ h9 => h9) rfl dX4_fails_14 ?_
    refine va_getN (D := (dC, dI)) (ci := 2) (v := .ref axrd) (C := RX2) (T := TX2) (N := 2) hx hb hts hin_X2 hown hK hP 1 rfl rfl 0 (by decide) (va_Nw.use rfl (hN.2.1)) (fun _ h9 => h9) rfl dX4_fails_17 ?_
    refine lv_iload_n hx hb dX4_fails_20 rfl (lv_at hl 3 rfl) ?_
    obtain ⟨hi, h⟩ := gin_some h
    refine va_iald hx hb hK hP 2 0 rfl rfl hi dX4_fails_21 ?_
    refine lv_icmp_le (tgt := 29) hx hb dX4_fails_22 (by decide) (fun c6 => ?_) (fun c6 => ?_)
    · rw [if_pos c6] at h
      refine lv_iconst (v := (0 : Int32)) hx hb dX4_fails_29 (by decide) ?_
      have h0 := Option.some.inj h
      subst h0
      exact W.zret (ty := .boolean) hx hb hr bo_0 (fun t ht hW => ⟨⟨_, (), rfl, ⟨rfl, bo_0⟩, QW_mk hP hK hD ht hW⟩, hS.F ht⟩) hS.2.2 dX4_fails_30
    · rw [if_neg c6] at h
      refine lv_iconst (v := (1 : Int32)) hx hb dX4_fails_25 (by decide) ?_
      refine lv_goto (tgt := 30) hx hb dX4_fails_26 (by decide) ?_
      have h0 := Option.some.inj h
      subst h0
      exact W.zret (ty := .boolean) hx hb hr bo_1 (fun t ht hW => ⟨⟨_, (), rfl, ⟨rfl, bo_1⟩, QW_mk hP hK hD ht hW⟩, hS.F ht⟩) hS.2.2 dX4_fails_30

noncomputable def fX4_shows (vxk : Int32) (vxrs : Int32) (fxrd : Nat → Int32) (vxbb : Int32) (fxej : Nat → Int32) (p0 : Int32) (p1 : Int32) (p2 : Int32) : Option (Int32) := bd (fX4_isLook vxk vxrs p0 p1 p2) fun r1 => if r1 = 0 then (some (-2 : Int32)) else (bd (fX4_fails fxrd vxbb fxej p0 p1 p2) fun r2 => if r2 = 0 then (some (0 : Int32)) else (some (1 : Int32)))
set_option maxHeartbeats 4000000 in
set_option maxRecDepth 100000 in
theorem c_X4_shows (l : Launch) (dC : Nat → ClassId) (dI : Nat → Nat → Nat) (cy : ClassId) (ax axr axt axm axb axe axrd axej : Nat) (sz : Nat) (vxk : Int32) (vxrs : Int32) (fxrd : Nat → Int32) (vxbb : Int32) (fxej : Nat → Int32) (p0 : Int32) (p1 : Int32) (p2 : Int32) (res : Int32) (h : fX4_shows vxk vxrs fxrd vxbb fxej p0 p1 p2 = some res) : Met l yX4_shows wsX4_shows ({ frames := 5, cells := 0, slots := 0, locals := 114 }) (va_Pc [.ref ax, .int p0, .int p1, .int p2] (PW (dC, dI) cy sz [(ax, .inr (4, [.ref axr, .ref axt, .ref axm, .ref axb, .ref axe, .int vxk])), (axr, .inr (2, [.ref axrd, .int vxrs])), (axrd, .inl (cy, 8, .inl fxrd)), (axb, .inr (3, [.int vxbb])), (axe, .inr (1, [.ref axej])), (axej, .inl (cy, 6, .inl fxej))])) (va_Qi (fun (r : Int32) (_ : Unit) => r = res) (QW (dC, dI) cy (va_A [(ax, .inr (4, [.ref axr, .ref axt, .ref axm, .ref axb, .ref axe, .int vxk])), (axr, .inr (2, [.ref axrd, .int vxrs])), (axrd, .inl (cy, 8, .inl fxrd)), (axb, .inr (3, [.int vxbb])), (axe, .inr (1, [.ref axej])), (axej, .inl (cy, 6, .inl fxej))] sz) [(ax, .inr (4, [.ref axr, .ref axt, .ref axm, .ref axb, .ref axe, .int vxk])), (axr, .inr (2, [.ref axrd, .int vxrs])), (axrd, .inl (cy, 8, .inl fxrd)), (axb, .inr (3, [.int vxbb])), (axe, .inr (1, [.ref axej])), (axej, .inl (cy, 6, .inl fxej))]) (va_A [(ax, .inr (4, [.ref axr, .ref axt, .ref axm, .ref axb, .ref axe, .int vxk])), (axr, .inr (2, [.ref axrd, .int vxrs])), (axrd, .inl (cy, 8, .inl fxrd)), (axb, .inr (3, [.int vxbb])), (axe, .inr (1, [.ref axej])), (axej, .inl (cy, 6, .inl fxej))] sz)) 0 0 (va_A [(ax, .inr (4, [.ref axr, .ref axt, .ref axm, .ref axb, .ref axe, .int vxk])), (axr, .inr (2, [.ref axrd, .int vxrs])), (axrd, .inl (cy, 8, .inl fxrd)), (axb, .inr (3, [.int vxbb])), (axe, .inr (1, [.ref axej])), (axej, .inl (cy, 6, .inl fxej))] sz) := by
  refine Met.ofW (cc := cX4_shows) (maxL := 4) (ret := (some .int)) (by decide) rfl ?_
  intro p e s m args below meth c s₁ B hml hv
  obtain ⟨rfl, hsz, hP, hK, hD0, hN⟩ := hv
  have hx := B.exec
  have hb := B.bytes
  have hr := B.returns
  have hts := atoms_spec (ws := wsX4_shows) B.pre
  have hown : s.vm.findClass RX4 = some m.cls := findClass_of_methodNamed B.named
  have hlocks := B.notSynchronized
  subst hsz
  have hD := hD0.self (sz := s.heap.size)
  clear hD0
  generalize hAe : va_A [(ax, .inr (4, [.ref axr, .ref axt, .ref axm, .ref axb, .ref axe, .int vxk])), (axr, .inr (2, [.ref axrd, .int vxrs])), (axrd, .inl (cy, 8, .inl fxrd)), (axb, .inr (3, [.int vxbb])), (axe, .inr (1, [.ref axej])), (axej, .inl (cy, 6, .inl fxej))] s.heap.size = A at hD ⊢
  have hA : ∀ q : Nat, s.heap.size ≤ q → A q := fun q h => by rw [← hAe]; exact Or.inr h
  have hS : va_S A s.heap s.heap [] := va_S.rf
  have hl := lv_entry ([.ref ax, .int p0, .int p1, .int p2]) (n := 4) (Nat.le_of_ble_eq_true rfl)
  rw [lg_entry_eq]
  generalize (lg_sl ([.ref ax, .int p0, .int p1, .int p2]) ++ List.replicate (4 - (lg_sl ([.ref ax, .int p0, .int p1, .int p2])).length) Slot.unset).toArray = ls at hl ⊢
  replace hl : lv_has ls 4 [(0, .ref ax), (1, .int p0), (2, .int p1), (3, .int p2)] := hl
  replace hP : va_P (dC, dI) vwCl [(ax, .inr (4, [.ref axr, .ref axt, .ref axm, .ref axb, .ref axe, .int vxk])), (axr, .inr (2, [.ref axrd, .int vxrs])), (axrd, .inl (cy, 8, .inl fxrd)), (axb, .inr (3, [.int vxbb])), (axe, .inr (1, [.ref axej])), (axej, .inl (cy, 6, .inl fxej))] s.heap := hP
  obtain ⟨locs, hlocs⟩ : ∃ lc : List Loc, lc = [] := ⟨_, rfl⟩
  rw [← hlocs] at hS ⊢
  obtain ⟨H, hH⟩ : ∃ H : Heap, H = s.heap := ⟨_, rfl⟩
  have hP2 := hP; rw [← hH] at hP2
  have hS2 : va_S A s.heap H locs := by rw [hH]; exact hS
  suffices hgo : W p l e (headSpec wsX4_shows ({ frames := 5, cells := 0, slots := 0, locals := 114 })).room s m (([.ref ax, .int p0, .int p1, .int p2] : List Value).toArray) below meth c H locs 0 0 (MQ below (va_Qi (fun (r : Int32) (_ : Unit) => r = res) (QW (dC, dI) cy A [(ax, .inr (4, [.ref axr, .ref axt, .ref axm, .ref axb, .ref axe, .int vxk])), (axr, .inr (2, [.ref axrd, .int vxrs])), (axrd, .inl (cy, 8, .inl fxrd)), (axb, .inr (3, [.int vxbb])), (axe, .inr (1, [.ref axej])), (axej, .inl (cy, 6, .inl fxej))]) A) (([.ref ax, .int p0, .int p1, .int p2] : List Value).toArray) s 0 0 A) (F0 m 0 ls []) by rw [hH] at hgo; exact hgo
  replace hP := hP2
  replace hS := hS2
  clear hP2 hS2
  unfold fX4_shows at h
  refine lv_aload_n hx hb dX4_shows_0 rfl (lv_at hl 0 rfl) ?_
  refine lv_iload_n hx hb dX4_shows_1 rfl (lv_at hl 1 rfl) ?_
  refine lv_iload_n hx hb dX4_shows_2 rfl (lv_at hl 2 rfl) ?_
  refine lv_iload_n hx hb dX4_shows_3 rfl (lv_at hl 3 rfl) ?_
  obtain ⟨r1, hr1, h⟩ := bd_some h
  have hFc := va_free (wc := [(ax, .inr (4, [.ref axr, .ref axt, .ref axm, .ref axb, .ref axe, .int vxk])), (axr, .inr (2, [.ref axrd, .int vxrs]))]) hD hS hA [0, 1] rfl
  refine va_calli (va_runV (As := [.int p0, .int p1, .int p2]) (rest := []) ⟨hx, hb, hml, hown, hts⟩ (c_X4_isLook l dC dI cy ax axr axt axm axb axe axrd H.size vxk vxrs p0 p1 p2 r1 hr1) (cwV 3 hts gX4_shows_X4_isLook rfl rfl rfl (by decide +kernel) ⟨Nat.le_of_ble_eq_true rfl, Nat.le_of_ble_eq_true rfl⟩) ⟨PW_fb, va_recv hK hP (ci := 4) (q0 := 0) rfl rfl, PW_pre (hP.sub (ws' := [(ax, .inr (4, [.ref axr, .ref axt, .ref axm, .ref axb, .ref axe, .int vxk])), (axr, .inr (2, [.ref axrd, .int vxrs]))]) [0, 1] rfl) hK (hD.sub [0, 1] (by decide) rfl) hN⟩ rfl rfl hl.1 rfl (lv_room (Nat.le_of_ble_eq_true rfl)) dX4_shows_4 ⟨Nat.zero_le _, Nat.zero_le _⟩) hS (fun q _ h => hFc q h) hFc (fun rz u t H locs ht hvm hw hB hz1 hk1 hS => ?_)
  obtain ⟨hP, hD⟩ := jn (wr := [(axrd, .inl (cy, 8, .inl fxrd)), (axb, .inr (3, [.int vxbb])), (axe, .inr (1, [.ref axej])), (axej, .inl (cy, 6, .inl fxej))]) (w1 := [(ax, .inr (4, [.ref axr, .ref axt, .ref axm, .ref axb, .ref axe, .int vxk])), (axr, .inr (2, [.ref axrd, .int vxrs]))]) (ws' := [(ax, .inr (4, [.ref axr, .ref axt, .ref axm, .ref axb, .ref axe, .int vxk])), (axr, .inr (2, [.ref axrd, .int vxrs])), (axrd, .inl (cy, 8, .inl fxrd)), (axb, .inr (3, [.int vxbb])), (axe, .inr (1, [.ref axej])), (axej, .inl (cy, 6, .inl fxej))]) hP hD [0, 1] [2, 3, 4, 5] rfl rfl (by decide) (by decide) hk1 hFc hB ht [4, 5, 0, 1, 2, 3] rfl (by decide) rfl
  obtain ⟨hw, br1⟩ := hw
  replace hw := hw.symm
  subst hw
  clear hFc hB hk1 hz1 hvm
  refine lv_if_ne (tgt := 13) hx hb dX4_shows_7 (by decide) (fun c4 => ?_) (fun c4 => ?_)
  · rw [if_neg c4] at h
    refine lv_aload_n hx hb dX4_shows_13 rfl (lv_at hl 0 rfl) ?_
    refine lv_iload_n hx hb dX4_shows_14 rfl (lv_at hl 1 rfl) ?_
    refine lv_iload_n hx hb dX4_shows_15 rfl (lv_at hl 2 rfl) ?_
    refine lv_iload_n hx hb dX4_shows_16 rfl (lv_at hl 3 rfl) ?_
    obtain ⟨r2, hr2, h⟩ := bd_some h
    have hFc := va_free (wc := [(ax, .inr (4, [.ref axr, .ref axt, .ref axm, .ref axb, .ref axe, .int vxk])), (axr, .inr (2, [.ref axrd, .int vxrs])), (axrd, .inl (cy, 8, .inl fxrd)), (axb, .inr (3, [.int vxbb])), (axe, .inr (1, [.ref axej])), (axej, .inl (cy, 6, .inl fxej))]) hD hS hA [0, 1, 2, 3, 4, 5] rfl
    refine va_calli (va_runV (As := [.int p0, .int p1, .int p2]) (rest := []) ⟨hx, hb, hml, hown, hts⟩ (c_X4_fails l dC dI cy ax axr axt axm axb axe axrd axej H.size vxk vxrs fxrd vxbb fxej p0 p1 p2 r2 hr2) (cwV 3 hts gX4_shows_X4_fails rfl rfl rfl (by decide +kernel) ⟨Nat.le_of_ble_eq_true rfl, Nat.le_of_ble_eq_true rfl⟩) ⟨PW_fb, va_recv hK hP (ci := 4) (q0 := 0) rfl rfl, PW_pre (hP.sub (ws' := [(ax, .inr (4, [.ref axr, .ref axt, .ref axm, .ref axb, .ref axe, .int vxk])), (axr, .inr (2, [.ref axrd, .int vxrs])), (axrd, .inl (cy, 8, .inl fxrd)), (axb, .inr (3, [.int vxbb])), (axe, .inr (1, [.ref axej])), (axej, .inl (cy, 6, .inl fxej))]) [0, 1, 2, 3, 4, 5] rfl) hK (hD.sub [0, 1, 2, 3, 4, 5] (by decide) rfl) hN⟩ rfl rfl hl.1 rfl (lv_room (Nat.le_of_ble_eq_true rfl)) dX4_shows_17 ⟨Nat.zero_le _, Nat.zero_le _⟩) hS (fun q _ h => hFc q h) hFc (fun rz u t H locs ht hvm hw hB hz1 hk1 hS => ?_)
    obtain ⟨hP, hD⟩ := jn (wr := []) (w1 := [(ax, .inr (4, [.ref axr, .ref axt, .ref axm, .ref axb, .ref axe, .int vxk])), (axr, .inr (2, [.ref axrd, .int vxrs])), (axrd, .inl (cy, 8, .inl fxrd)), (axb, .inr (3, [.int vxbb])), (axe, .inr (1, [.ref axej])), (axej, .inl (cy, 6, .inl fxej))]) (ws' := [(ax, .inr (4, [.ref axr, .ref axt, .ref axm, .ref axb, .ref axe, .int vxk])), (axr, .inr (2, [.ref axrd, .int vxrs])), (axrd, .inl (cy, 8, .inl fxrd)), (axb, .inr (3, [.int vxbb])), (axe, .inr (1, [.ref axej])), (axej, .inl (cy, 6, .inl fxej))]) hP hD [0, 1, 2, 3, 4, 5] [] rfl rfl (by decide) (by decide) hk1 hFc hB ht [0, 1, 2, 3, 4, 5] rfl (by decide) rfl
    obtain ⟨hw, br2⟩ := hw
    replace hw := hw.symm
    subst hw
    clear hFc hB hk1 hz1 hvm
    refine lv_if_eq (tgt := 27) hx hb dX4_shows_20 (by decide) (fun c3 => ?_) (fun c3 => ?_)
    · rw [if_pos c3] at h
      refine lv_iconst (v := (0 : Int32)) hx hb dX4_shows_27 (by decide) ?_
      have h0 := Option.some.inj h
      subst h0
      exact W.iret hx hb hr (fun t ht hW => ⟨⟨_, (), rfl, rfl, QW_mk hP hK hD ht hW⟩, hS.F ht⟩) hS.2.2 dX4_shows_28
    · rw [if_neg c3] at h
      refine lv_iconst (v := (1 : Int32)) hx hb dX4_shows_23 (by decide) ?_
      refine lv_goto (tgt := 28) hx hb dX4_shows_24 (by decide) ?_
      have h0 := Option.some.inj h
      subst h0
      exact W.iret hx hb hr (fun t ht hW => ⟨⟨_, (), rfl, rfl, QW_mk hP hK hD ht hW⟩, hS.F ht⟩) hS.2.2 dX4_shows_28
  · rw [if_pos c4] at h
    refine lv_bipush (v := (-2 : Int32)) hx hb dX4_shows_10 (by decide) ?_
    have h0 := Option.some.inj h
    subst h0
    exact W.iret hx hb hr (fun t ht hW => ⟨⟨_, (), rfl, rfl, QW_mk hP hK hD ht hW⟩, hS.F ht⟩) hS.2.2 dX4_shows_12

noncomputable def fX4_firstFailingSet_L2 (n : Nat) (l1 : Int32) (vxk : Int32) (vxrs : Int32) (fxrd : Nat → Int32) (vxbb : Int32) (fxej : Nat → Int32) : Option ((Int32) ⊕ (Int32)) := match n with
  | 0 => none
  | n + 1 => if (63 : Int32) < l1 then (some (.inr l1)) else (bd (fX4_isLook vxk vxrs (5 : Int32) l1 (0 : Int32)) fun r1 => if r1 = 0 then (fX4_firstFailingSet_L2 n (l1 + (1 : Int32)) vxk vxrs fxrd vxbb fxej) else (bd (fX4_fails fxrd vxbb fxej (5 : Int32) l1 (0 : Int32)) fun r2 => if r2 = 0 then (fX4_firstFailingSet_L2 n (l1 + (1 : Int32)) vxk vxrs fxrd vxbb fxej) else (some (.inl l1))))
theorem fX4_firstFailingSet_L2_0 (l1 : Int32) (vxk : Int32) (vxrs : Int32) (fxrd : Nat → Int32) (vxbb : Int32) (fxej : Nat → Int32) : fX4_firstFailingSet_L2 0 l1 vxk vxrs fxrd vxbb fxej = none := rfl
theorem fX4_firstFailingSet_L2_s (n : Nat) (l1 : Int32) (vxk : Int32) (vxrs : Int32) (fxrd : Nat → Int32) (vxbb : Int32) (fxej : Nat → Int32) : fX4_firstFailingSet_L2 (n + 1) l1 vxk vxrs fxrd vxbb fxej = if (63 : Int32) < l1 then (some (.inr l1)) else (bd (fX4_isLook vxk vxrs (5 : Int32) l1 (0 : Int32)) fun r1 => if r1 = 0 then (fX4_firstFailingSet_L2 n (l1 + (1 : Int32)) vxk vxrs fxrd vxbb fxej) else (bd (fX4_fails fxrd vxbb fxej (5 : Int32) l1 (0 : Int32)) fun r2 => if r2 = 0 then (fX4_firstFailingSet_L2 n (l1 + (1 : Int32)) vxk vxrs fxrd vxbb fxej) else (some (.inl l1)))) := rfl
noncomputable def fX4_firstFailingSet (vxk : Int32) (vxrs : Int32) (fxrd : Nat → Int32) (vxbb : Int32) (fxej : Nat → Int32)  : Option (Int32) := bs (fX4_firstFailingSet_L2 FU (0 : Int32) vxk vxrs fxrd vxbb fxej) fun q7 => some (-1 : Int32)
set_option maxHeartbeats 4000000 in
set_option maxRecDepth 100000 in
theorem c_X4_firstFailingSet (l : Launch) (dC : Nat → ClassId) (dI : Nat → Nat → Nat) (cy : ClassId) (ax axr axt axm axb axe axrd axej : Nat) (sz : Nat) (vxk : Int32) (vxrs : Int32) (fxrd : Nat → Int32) (vxbb : Int32) (fxej : Nat → Int32)  (res : Int32) (h : fX4_firstFailingSet vxk vxrs fxrd vxbb fxej = some res) : Met l yX4_firstFailingSet wsX4_firstFailingSet ({ frames := 5, cells := 0, slots := 0, locals := 114 }) (va_Pc [.ref ax] (PW (dC, dI) cy sz [(ax, .inr (4, [.ref axr, .ref axt, .ref axm, .ref axb, .ref axe, .int vxk])), (axr, .inr (2, [.ref axrd, .int vxrs])), (axrd, .inl (cy, 8, .inl fxrd)), (axb, .inr (3, [.int vxbb])), (axe, .inr (1, [.ref axej])), (axej, .inl (cy, 6, .inl fxej))])) (va_Qi (fun (r : Int32) (_ : Unit) => r = res) (QW (dC, dI) cy (va_A [(ax, .inr (4, [.ref axr, .ref axt, .ref axm, .ref axb, .ref axe, .int vxk])), (axr, .inr (2, [.ref axrd, .int vxrs])), (axrd, .inl (cy, 8, .inl fxrd)), (axb, .inr (3, [.int vxbb])), (axe, .inr (1, [.ref axej])), (axej, .inl (cy, 6, .inl fxej))] sz) [(ax, .inr (4, [.ref axr, .ref axt, .ref axm, .ref axb, .ref axe, .int vxk])), (axr, .inr (2, [.ref axrd, .int vxrs])), (axrd, .inl (cy, 8, .inl fxrd)), (axb, .inr (3, [.int vxbb])), (axe, .inr (1, [.ref axej])), (axej, .inl (cy, 6, .inl fxej))]) (va_A [(ax, .inr (4, [.ref axr, .ref axt, .ref axm, .ref axb, .ref axe, .int vxk])), (axr, .inr (2, [.ref axrd, .int vxrs])), (axrd, .inl (cy, 8, .inl fxrd)), (axb, .inr (3, [.int vxbb])), (axe, .inr (1, [.ref axej])), (axej, .inl (cy, 6, .inl fxej))] sz)) 0 0 (va_A [(ax, .inr (4, [.ref axr, .ref axt, .ref axm, .ref axb, .ref axe, .int vxk])), (axr, .inr (2, [.ref axrd, .int vxrs])), (axrd, .inl (cy, 8, .inl fxrd)), (axb, .inr (3, [.int vxbb])), (axe, .inr (1, [.ref axej])), (axej, .inl (cy, 6, .inl fxej))] sz) := by
  refine Met.ofW (cc := cX4_firstFailingSet) (maxL := 2) (ret := (some .int)) (by decide) rfl ?_
  intro p e s m args below meth c s₁ B hml hv
  obtain ⟨rfl, hsz, hP, hK, hD0, hN⟩ := hv
  have hx := B.exec
  have hb := B.bytes
  have hr := B.returns
  have hts := atoms_spec (ws := wsX4_firstFailingSet) B.pre
  have hown : s.vm.findClass RX4 = some m.cls := findClass_of_methodNamed B.named
  have hlocks := B.notSynchronized
  subst hsz
  have hD := hD0.self (sz := s.heap.size)
  clear hD0
  generalize hAe : va_A [(ax, .inr (4, [.ref axr, .ref axt, .ref axm, .ref axb, .ref axe, .int vxk])), (axr, .inr (2, [.ref axrd, .int vxrs])), (axrd, .inl (cy, 8, .inl fxrd)), (axb, .inr (3, [.int vxbb])), (axe, .inr (1, [.ref axej])), (axej, .inl (cy, 6, .inl fxej))] s.heap.size = A at hD ⊢
  have hA : ∀ q : Nat, s.heap.size ≤ q → A q := fun q h => by rw [← hAe]; exact Or.inr h
  have hS : va_S A s.heap s.heap [] := va_S.rf
  have hl := lv_entry ([.ref ax]) (n := 2) (Nat.le_of_ble_eq_true rfl)
  rw [lg_entry_eq]
  generalize (lg_sl ([.ref ax]) ++ List.replicate (2 - (lg_sl ([.ref ax])).length) Slot.unset).toArray = ls at hl ⊢
  replace hl : lv_has ls 2 [(0, .ref ax)] := hl
  replace hP : va_P (dC, dI) vwCl [(ax, .inr (4, [.ref axr, .ref axt, .ref axm, .ref axb, .ref axe, .int vxk])), (axr, .inr (2, [.ref axrd, .int vxrs])), (axrd, .inl (cy, 8, .inl fxrd)), (axb, .inr (3, [.int vxbb])), (axe, .inr (1, [.ref axej])), (axej, .inl (cy, 6, .inl fxej))] s.heap := hP
  obtain ⟨locs, hlocs⟩ : ∃ lc : List Loc, lc = [] := ⟨_, rfl⟩
  rw [← hlocs] at hS ⊢
  obtain ⟨H, hH⟩ : ∃ H : Heap, H = s.heap := ⟨_, rfl⟩
  have hP2 := hP; rw [← hH] at hP2
  have hS2 : va_S A s.heap H locs := by rw [hH]; exact hS
  suffices hgo : W p l e (headSpec wsX4_firstFailingSet ({ frames := 5, cells := 0, slots := 0, locals := 114 })).room s m (([.ref ax] : List Value).toArray) below meth c H locs 0 0 (MQ below (va_Qi (fun (r : Int32) (_ : Unit) => r = res) (QW (dC, dI) cy A [(ax, .inr (4, [.ref axr, .ref axt, .ref axm, .ref axb, .ref axe, .int vxk])), (axr, .inr (2, [.ref axrd, .int vxrs])), (axrd, .inl (cy, 8, .inl fxrd)), (axb, .inr (3, [.int vxbb])), (axe, .inr (1, [.ref axej])), (axej, .inl (cy, 6, .inl fxej))]) A) (([.ref ax] : List Value).toArray) s 0 0 A) (F0 m 0 ls []) by rw [hH] at hgo; exact hgo
  replace hP := hP2
  replace hS := hS2
  clear hP2 hS2
  unfold fX4_firstFailingSet at h
  refine lv_iconst (v := (0 : Int32)) hx hb dX4_firstFailingSet_0 (by decide) ?_
  refine lv_istore_n (lv' := [(1, .int (0 : Int32)), (0, .ref ax)]) hx hb dX4_firstFailingSet_1 rfl hl (by decide) rfl (fun ls hl => ?_)
  have L2_5 : ∀ (n : Nat) (l1 : Int32) (rs : ((Int32) ⊕ (Int32))) (H : Heap) (locs : List Loc) (ls : Array Slot), fX4_firstFailingSet_L2 n l1 vxk vxrs fxrd vxbb fxej = some rs → lv_has ls 2 [(0, .ref ax), (1, .int l1)] → va_P (dC, dI) vwCl [(ax, .inr (4, [.ref axr, .ref axt, .ref axm, .ref axb, .ref axe, .int vxk])), (axr, .inr (2, [.ref axrd, .int vxrs])), (axrd, .inl (cy, 8, .inl fxrd)), (axb, .inr (3, [.int vxbb])), (axe, .inr (1, [.ref axej])), (axej, .inl (cy, 6, .inl fxej))] H → va_D A [(ax, .inr (4, [.ref axr, .ref axt, .ref axm, .ref axb, .ref axe, .int vxk])), (axr, .inr (2, [.ref axrd, .int vxrs])), (axrd, .inl (cy, 8, .inl fxrd)), (axb, .inr (3, [.int vxbb])), (axe, .inr (1, [.ref axej])), (axej, .inl (cy, 6, .inl fxej))] → va_S A s.heap H locs → (∀ q, rs = .inl q → q = res) → (∀ q, rs = .inr q → (∀ (H : Heap) (locs : List Loc) (ls : Array Slot), lv_has ls 2 [(0, .ref ax), (1, .int q)] → va_P (dC, dI) vwCl [(ax, .inr (4, [.ref axr, .ref axt, .ref axm, .ref axb, .ref axe, .int vxk])), (axr, .inr (2, [.ref axrd, .int vxrs])), (axrd, .inl (cy, 8, .inl fxrd)), (axb, .inr (3, [.int vxbb])), (axe, .inr (1, [.ref axej])), (axej, .inl (cy, 6, .inl fxej))] H → va_D A [(ax, .inr (4, [.ref axr, .ref axt, .ref axm, .ref axb, .ref axe, .int vxk])), (axr, .inr (2, [.ref axrd, .int vxrs])), (axrd, .inl (cy, 8, .inl fxrd)), (axb, .inr (3, [.int vxbb])), (axe, .inr (1, [.ref axej])), (axej, .inl (cy, 6, .inl fxej))] → va_S A s.heap H locs → W p l e (headSpec wsX4_firstFailingSet ({ frames := 5, cells := 0, slots := 0, locals := 114 })).room s m (([.ref ax] : List Value).toArray) below meth c H locs 0 0 (MQ below (va_Qi (fun (r : Int32) (_ : Unit) => r = res) (QW (dC, dI) cy A [(ax, .inr (4, [.ref axr, .ref axt, .ref axm, .ref axb, .ref axe, .int vxk])), (axr, .inr (2, [.ref axrd, .int vxrs])), (axrd, .inl (cy, 8, .inl fxrd)), (axb, .inr (3, [.int vxbb])), (axe, .inr (1, [.ref axej])), (axej, .inl (cy, 6, .inl fxej))]) A) (([.ref ax] : List Value).toArray) s 0 0 A) (F0 m 36 ls []))) → W p l e (headSpec wsX4_firstFailingSet ({ frames := 5, cells := 0, slots := 0, locals := 114 })).room s m (([.ref ax] : List Value).toArray) below meth c H locs 0 0 (MQ below (va_Qi (fun (r : Int32) (_ : Unit) => r = res) (QW (dC, dI) cy A [(ax, .inr (4, [.ref axr, .ref axt, .ref axm, .ref axb, .ref axe, .int vxk])), (axr, .inr (2, [.ref axrd, .int vxrs])), (axrd, .inl (cy, 8, .inl fxrd)), (axb, .inr (3, [.int vxbb])), (axe, .inr (1, [.ref axej])), (axej, .inl (cy, 6, .inl fxej))]) A) (([.ref ax] : List Value).toArray) s 0 0 A) (F0 m 2 ls []) := by
    intro n
    induction n with
    | zero =>
      intro l1 rs H locs ls h
      rw [fX4_firstFailingSet_L2_0] at h
      cases h
    | succ n ih =>
      intro l1 rs H locs ls h hl hP hD hS kr kx
      rw [fX4_firstFailingSet_L2_s] at h
      refine lv_iload_n hx hb dX4_firstFailingSet_2 rfl (lv_at hl 1 rfl) ?_
      refine lv_bipush (v := (63 : Int32)) hx hb dX4_firstFailingSet_3 (by decide) ?_
      refine lv_icmp_gt (tgt := 36) hx hb dX4_firstFailingSet_5 (by decide) (fun c5 => ?_) (fun c5 => ?_)
      · rw [if_pos c5] at h
        have h0 := Option.some.inj h
        subst h0
        exact kx _ rfl H locs ls (lv_sub hl [0, 1] rfl) hP hD hS
      · rw [if_neg c5] at h
        refine lv_aload_n hx hb dX4_firstFailingSet_8 rfl (lv_at hl 0 rfl) ?_
        refine lv_iconst (v := (5 : Int32)) hx hb dX4_firstFailingSet_9 (by decide) ?_
        refine lv_iload_n hx hb dX4_firstFailingSet_10 rfl (lv_at hl 1 rfl) ?_
        refine lv_iconst (v := (0 : Int32)) hx hb dX4_firstFailingSet_11 (by decide) ?_
        obtain ⟨r1, hr1, h⟩ := bd_some h
        have hFc := va_free (wc := [(ax, .inr (4, [.ref axr, .ref axt, .ref axm, .ref axb, .ref axe, .int vxk])), (axr, .inr (2, [.ref axrd, .int vxrs]))]) hD hS hA [0, 1] rfl
        refine va_calli (va_runV (As := [.int (5 : Int32), .int l1, .int (0 : Int32)]) (rest := []) ⟨hx, hb, hml, hown, hts⟩ (c_X4_isLook l dC dI cy ax axr axt axm axb axe axrd H.size vxk vxrs (5 : Int32) l1 (0 : Int32) r1 hr1) (cwV 3 hts gX4_firstFailingSet_X4_isLook rfl rfl rfl (by decide +kernel) ⟨Nat.le_of_ble_eq_true rfl, Nat.le_of_ble_eq_true rfl⟩) ⟨PW_fb, va_recv hK hP (ci := 4) (q0 := 0) rfl rfl, PW_pre (hP.sub (ws' := [(ax, .inr (4, [.ref axr, .ref axt, .ref axm, .ref axb, .ref axe, .int vxk])), (axr, .inr (2, [.ref axrd, .int vxrs]))]) [0, 1] rfl) hK (hD.sub [0, 1] (by decide) rfl) hN⟩ rfl rfl hl.1 rfl (lv_room (Nat.le_of_ble_eq_true rfl)) dX4_firstFailingSet_12 ⟨Nat.zero_le _, Nat.zero_le _⟩) hS (fun q _ h => hFc q h) hFc (fun rz u t H locs ht hvm hw hB hz1 hk1 hS => ?_)
        obtain ⟨hP, hD⟩ := jn (wr := [(axrd, .inl (cy, 8, .inl fxrd)), (axb, .inr (3, [.int vxbb])), (axe, .inr (1, [.ref axej])), (axej, .inl (cy, 6, .inl fxej))]) (w1 := [(ax, .inr (4, [.ref axr, .ref axt, .ref axm, .ref axb, .ref axe, .int vxk])), (axr, .inr (2, [.ref axrd, .int vxrs]))]) (ws' := [(ax, .inr (4, [.ref axr, .ref axt, .ref axm, .ref axb, .ref axe, .int vxk])), (axr, .inr (2, [.ref axrd, .int vxrs])), (axrd, .inl (cy, 8, .inl fxrd)), (axb, .inr (3, [.int vxbb])), (axe, .inr (1, [.ref axej])), (axej, .inl (cy, 6, .inl fxej))]) hP hD [0, 1] [2, 3, 4, 5] rfl rfl (by decide) (by decide) hk1 hFc hB ht [4, 5, 0, 1, 2, 3] rfl (by decide) rfl
        obtain ⟨hw, br1⟩ := hw
        replace hw := hw.symm
        subst hw
        clear hFc hB hk1 hz1 hvm
        refine lv_if_eq (tgt := 30) hx hb dX4_firstFailingSet_15 (by decide) (fun c4 => ?_) (fun c4 => ?_)
        · rw [if_pos c4] at h
          refine lv_iinc (v := l1 + (1 : Int32)) (lv' := [(1, .int (l1 + (1 : Int32))), (0, .ref ax)]) hx hb dX4_firstFailingSet_30 hl (k := 1) rfl rfl (by decide) rfl (fun ls hl => ?_)
          refine lv_goto (tgt := 2) hx hb dX4_firstFailingSet_33 (by decide) ?_
          exact ih (l1 + (1 : Int32)) rs H locs ls h (lv_sub hl [1, 0] rfl) hP hD hS kr kx
        · rw [if_neg c4] at h
          refine lv_aload_n hx hb dX4_firstFailingSet_18 rfl (lv_at hl 0 rfl) ?_
          refine lv_iconst (v := (5 : Int32)) hx hb dX4_firstFailingSet_19 (by decide) ?_
          refine lv_iload_n hx hb dX4_firstFailingSet_20 rfl (lv_at hl 1 rfl) ?_
          refine lv_iconst (v := (0 : Int32)) hx hb dX4_firstFailingSet_21 (by decide) ?_
          obtain ⟨r2, hr2, h⟩ := bd_some h
          have hFc := va_free (wc := [(ax, .inr (4, [.ref axr, .ref axt, .ref axm, .ref axb, .ref axe, .int vxk])), (axr, .inr (2, [.ref axrd, .int vxrs])), (axrd, .inl (cy, 8, .inl fxrd)), (axb, .inr (3, [.int vxbb])), (axe, .inr (1, [.ref axej])), (axej, .inl (cy, 6, .inl fxej))]) hD hS hA [0, 1, 2, 3, 4, 5] rfl
          refine va_calli (va_runV (As := [.int (5 : Int32), .int l1, .int (0 : Int32)]) (rest := []) ⟨hx, hb, hml, hown, hts⟩ (c_X4_fails l dC dI cy ax axr axt axm axb axe axrd axej H.size vxk vxrs fxrd vxbb fxej (5 : Int32) l1 (0 : Int32) r2 hr2) (cwV 3 hts gX4_firstFailingSet_X4_fails rfl rfl rfl (by decide +kernel) ⟨Nat.le_of_ble_eq_true rfl, Nat.le_of_ble_eq_true rfl⟩) ⟨PW_fb, va_recv hK hP (ci := 4) (q0 := 0) rfl rfl, PW_pre (hP.sub (ws' := [(ax, .inr (4, [.ref axr, .ref axt, .ref axm, .ref axb, .ref axe, .int vxk])), (axr, .inr (2, [.ref axrd, .int vxrs])), (axrd, .inl (cy, 8, .inl fxrd)), (axb, .inr (3, [.int vxbb])), (axe, .inr (1, [.ref axej])), (axej, .inl (cy, 6, .inl fxej))]) [0, 1, 2, 3, 4, 5] rfl) hK (hD.sub [0, 1, 2, 3, 4, 5] (by decide) rfl) hN⟩ rfl rfl hl.1 rfl (lv_room (Nat.le_of_ble_eq_true rfl)) dX4_firstFailingSet_22 ⟨Nat.zero_le _, Nat.zero_le _⟩) hS (fun q _ h => hFc q h) hFc (fun rz u t H locs ht hvm hw hB hz1 hk1 hS => ?_)
          obtain ⟨hP, hD⟩ := jn (wr := []) (w1 := [(ax, .inr (4, [.ref axr, .ref axt, .ref axm, .ref axb, .ref axe, .int vxk])), (axr, .inr (2, [.ref axrd, .int vxrs])), (axrd, .inl (cy, 8, .inl fxrd)), (axb, .inr (3, [.int vxbb])), (axe, .inr (1, [.ref axej])), (axej, .inl (cy, 6, .inl fxej))]) (ws' := [(ax, .inr (4, [.ref axr, .ref axt, .ref axm, .ref axb, .ref axe, .int vxk])), (axr, .inr (2, [.ref axrd, .int vxrs])), (axrd, .inl (cy, 8, .inl fxrd)), (axb, .inr (3, [.int vxbb])), (axe, .inr (1, [.ref axej])), (axej, .inl (cy, 6, .inl fxej))]) hP hD [0, 1, 2, 3, 4, 5] [] rfl rfl (by decide) (by decide) hk1 hFc hB ht [0, 1, 2, 3, 4, 5] rfl (by decide) rfl
          obtain ⟨hw, br2⟩ := hw
          replace hw := hw.symm
          subst hw
          clear hFc hB hk1 hz1 hvm
          refine lv_if_eq (tgt := 30) hx hb dX4_firstFailingSet_25 (by decide) (fun c3 => ?_) (fun c3 => ?_)
          · rw [if_pos c3] at h
            refine lv_iinc (v := l1 + (1 : Int32)) (lv' := [(1, .int (l1 + (1 : Int32))), (0, .ref ax)]) hx hb dX4_firstFailingSet_30 hl (k := 1) rfl rfl (by decide) rfl (fun ls hl => ?_)
            refine lv_goto (tgt := 2) hx hb dX4_firstFailingSet_33 (by decide) ?_
            exact ih (l1 + (1 : Int32)) rs H locs ls h (lv_sub hl [1, 0] rfl) hP hD hS kr kx
          · rw [if_neg c3] at h
            refine lv_iload_n hx hb dX4_firstFailingSet_28 rfl (lv_at hl 1 rfl) ?_
            have h0 := Option.some.inj h
            subst h0
            have hk := kr _ rfl
            subst hk
            exact W.iret hx hb hr (fun t ht hW => ⟨⟨_, (), rfl, rfl, QW_mk hP hK hD ht hW⟩, hS.F ht⟩) hS.2.2 dX4_firstFailingSet_29
  obtain ⟨rq7, hq7, kq7, xq7⟩ := bs_some h
  refine L2_5 FU (0 : Int32) rq7 H locs ls hq7 (lv_sub hl [1, 0] rfl) hP hD hS kq7 (fun q7 eq7 H locs ls hl hP hD hS => ?_)
  replace h := xq7 q7 eq7
  refine lv_iconst (v := (-1 : Int32)) hx hb dX4_firstFailingSet_36 (by decide) ?_
  have h0 := Option.some.inj h
  subst h0
  exact W.iret hx hb hr (fun t ht hW => ⟨⟨_, (), rfl, rfl, QW_mk hP hK hD ht hW⟩, hS.F ht⟩) hS.2.2 dX4_firstFailingSet_37

noncomputable def fX4_firstFailingPair_L10 (n : Nat) (l1 : Int32) (l2 : Int32) (l3 : Int32) (vxk : Int32) (vxrs : Int32) (fxrd : Nat → Int32) (vxbb : Int32) (fxej : Nat → Int32) : Option ((Int32) ⊕ (Int32)) := match n with
  | 0 => none
  | n + 1 => if (8 : Int32) ≤ l3 then (some (.inr l3)) else (bd (fX4_isLook vxk vxrs l1 l2 l3) fun r1 => if r1 = 0 then (fX4_firstFailingPair_L10 n l1 l2 (l3 + (1 : Int32)) vxk vxrs fxrd vxbb fxej) else (bd (fX4_fails fxrd vxbb fxej l1 l2 l3) fun r2 => if r2 = 0 then (fX4_firstFailingPair_L10 n l1 l2 (l3 + (1 : Int32)) vxk vxrs fxrd vxbb fxej) else (some (.inl (((100 : Int32) * l2) + l3)))))
theorem fX4_firstFailingPair_L10_0 (l1 : Int32) (l2 : Int32) (l3 : Int32) (vxk : Int32) (vxrs : Int32) (fxrd : Nat → Int32) (vxbb : Int32) (fxej : Nat → Int32) : fX4_firstFailingPair_L10 0 l1 l2 l3 vxk vxrs fxrd vxbb fxej = none := rfl
theorem fX4_firstFailingPair_L10_s (n : Nat) (l1 : Int32) (l2 : Int32) (l3 : Int32) (vxk : Int32) (vxrs : Int32) (fxrd : Nat → Int32) (vxbb : Int32) (fxej : Nat → Int32) : fX4_firstFailingPair_L10 (n + 1) l1 l2 l3 vxk vxrs fxrd vxbb fxej = if (8 : Int32) ≤ l3 then (some (.inr l3)) else (bd (fX4_isLook vxk vxrs l1 l2 l3) fun r1 => if r1 = 0 then (fX4_firstFailingPair_L10 n l1 l2 (l3 + (1 : Int32)) vxk vxrs fxrd vxbb fxej) else (bd (fX4_fails fxrd vxbb fxej l1 l2 l3) fun r2 => if r2 = 0 then (fX4_firstFailingPair_L10 n l1 l2 (l3 + (1 : Int32)) vxk vxrs fxrd vxbb fxej) else (some (.inl (((100 : Int32) * l2) + l3))))) := rfl
noncomputable def fX4_firstFailingPair_L2 (n : Nat) (l1 : Int32) (l2 : Int32) (vxk : Int32) (vxrs : Int32) (fxrd : Nat → Int32) (vxbb : Int32) (fxej : Nat → Int32) : Option ((Int32) ⊕ (Int32)) := match n with
  | 0 => none
  | n + 1 => if (8 : Int32) ≤ l2 then (some (.inr l2)) else (bt (fX4_firstFailingPair_L10 FU l1 l2 (0 : Int32) vxk vxrs fxrd vxbb fxej) fun q7 => fX4_firstFailingPair_L2 n l1 (l2 + (1 : Int32)) vxk vxrs fxrd vxbb fxej)
theorem fX4_firstFailingPair_L2_0 (l1 : Int32) (l2 : Int32) (vxk : Int32) (vxrs : Int32) (fxrd : Nat → Int32) (vxbb : Int32) (fxej : Nat → Int32) : fX4_firstFailingPair_L2 0 l1 l2 vxk vxrs fxrd vxbb fxej = none := rfl
theorem fX4_firstFailingPair_L2_s (n : Nat) (l1 : Int32) (l2 : Int32) (vxk : Int32) (vxrs : Int32) (fxrd : Nat → Int32) (vxbb : Int32) (fxej : Nat → Int32) : fX4_firstFailingPair_L2 (n + 1) l1 l2 vxk vxrs fxrd vxbb fxej = if (8 : Int32) ≤ l2 then (some (.inr l2)) else (bt (fX4_firstFailingPair_L10 FU l1 l2 (0 : Int32) vxk vxrs fxrd vxbb fxej) fun q7 => fX4_firstFailingPair_L2 n l1 (l2 + (1 : Int32)) vxk vxrs fxrd vxbb fxej) := rfl
noncomputable def fX4_firstFailingPair (vxk : Int32) (vxrs : Int32) (fxrd : Nat → Int32) (vxbb : Int32) (fxej : Nat → Int32) (p0 : Int32) : Option (Int32) := bs (fX4_firstFailingPair_L2 FU p0 (0 : Int32) vxk vxrs fxrd vxbb fxej) fun q10 => some (-1 : Int32)
set_option maxHeartbeats 4000000 in
set_option maxRecDepth 100000 in
theorem c_X4_firstFailingPair (l : Launch) (dC : Nat → ClassId) (dI : Nat → Nat → Nat) (cy : ClassId) (ax axr axt axm axb axe axrd axej : Nat) (sz : Nat) (vxk : Int32) (vxrs : Int32) (fxrd : Nat → Int32) (vxbb : Int32) (fxej : Nat → Int32) (p0 : Int32) (res : Int32) (h : fX4_firstFailingPair vxk vxrs fxrd vxbb fxej p0 = some res) : Met l yX4_firstFailingPair wsX4_firstFailingPair ({ frames := 5, cells := 0, slots := 0, locals := 114 }) (va_Pc [.ref ax, .int p0] (PW (dC, dI) cy sz [(ax, .inr (4, [.ref axr, .ref axt, .ref axm, .ref axb, .ref axe, .int vxk])), (axr, .inr (2, [.ref axrd, .int vxrs])), (axrd, .inl (cy, 8, .inl fxrd)), (axb, .inr (3, [.int vxbb])), (axe, .inr (1, [.ref axej])), (axej, .inl (cy, 6, .inl fxej))])) (va_Qi (fun (r : Int32) (_ : Unit) => r = res) (QW (dC, dI) cy (va_A [(ax, .inr (4, [.ref axr, .ref axt, .ref axm, .ref axb, .ref axe, .int vxk])), (axr, .inr (2, [.ref axrd, .int vxrs])), (axrd, .inl (cy, 8, .inl fxrd)), (axb, .inr (3, [.int vxbb])), (axe, .inr (1, [.ref axej])), (axej, .inl (cy, 6, .inl fxej))] sz) [(ax, .inr (4, [.ref axr, .ref axt, .ref axm, .ref axb, .ref axe, .int vxk])), (axr, .inr (2, [.ref axrd, .int vxrs])), (axrd, .inl (cy, 8, .inl fxrd)), (axb, .inr (3, [.int vxbb])), (axe, .inr (1, [.ref axej])), (axej, .inl (cy, 6, .inl fxej))]) (va_A [(ax, .inr (4, [.ref axr, .ref axt, .ref axm, .ref axb, .ref axe, .int vxk])), (axr, .inr (2, [.ref axrd, .int vxrs])), (axrd, .inl (cy, 8, .inl fxrd)), (axb, .inr (3, [.int vxbb])), (axe, .inr (1, [.ref axej])), (axej, .inl (cy, 6, .inl fxej))] sz)) 0 0 (va_A [(ax, .inr (4, [.ref axr, .ref axt, .ref axm, .ref axb, .ref axe, .int vxk])), (axr, .inr (2, [.ref axrd, .int vxrs])), (axrd, .inl (cy, 8, .inl fxrd)), (axb, .inr (3, [.int vxbb])), (axe, .inr (1, [.ref axej])), (axej, .inl (cy, 6, .inl fxej))] sz) := by
  refine Met.ofW (cc := cX4_firstFailingPair) (maxL := 4) (ret := (some .int)) (by decide) rfl ?_
  intro p e s m args below meth c s₁ B hml hv
  obtain ⟨rfl, hsz, hP, hK, hD0, hN⟩ := hv
  have hx := B.exec
  have hb := B.bytes
  have hr := B.returns
  have hts := atoms_spec (ws := wsX4_firstFailingPair) B.pre
  have hown : s.vm.findClass RX4 = some m.cls := findClass_of_methodNamed B.named
  have hlocks := B.notSynchronized
  subst hsz
  have hD := hD0.self (sz := s.heap.size)
  clear hD0
  generalize hAe : va_A [(ax, .inr (4, [.ref axr, .ref axt, .ref axm, .ref axb, .ref axe, .int vxk])), (axr, .inr (2, [.ref axrd, .int vxrs])), (axrd, .inl (cy, 8, .inl fxrd)), (axb, .inr (3, [.int vxbb])), (axe, .inr (1, [.ref axej])), (axej, .inl (cy, 6, .inl fxej))] s.heap.size = A at hD ⊢
  have hA : ∀ q : Nat, s.heap.size ≤ q → A q := fun q h => by rw [← hAe]; exact Or.inr h
  have hS : va_S A s.heap s.heap [] := va_S.rf
  have hl := lv_entry ([.ref ax, .int p0]) (n := 4) (Nat.le_of_ble_eq_true rfl)
  rw [lg_entry_eq]
  generalize (lg_sl ([.ref ax, .int p0]) ++ List.replicate (4 - (lg_sl ([.ref ax, .int p0])).length) Slot.unset).toArray = ls at hl ⊢
  replace hl : lv_has ls 4 [(0, .ref ax), (1, .int p0)] := hl
  replace hP : va_P (dC, dI) vwCl [(ax, .inr (4, [.ref axr, .ref axt, .ref axm, .ref axb, .ref axe, .int vxk])), (axr, .inr (2, [.ref axrd, .int vxrs])), (axrd, .inl (cy, 8, .inl fxrd)), (axb, .inr (3, [.int vxbb])), (axe, .inr (1, [.ref axej])), (axej, .inl (cy, 6, .inl fxej))] s.heap := hP
  obtain ⟨locs, hlocs⟩ : ∃ lc : List Loc, lc = [] := ⟨_, rfl⟩
  rw [← hlocs] at hS ⊢
  obtain ⟨H, hH⟩ : ∃ H : Heap, H = s.heap := ⟨_, rfl⟩
  have hP2 := hP; rw [← hH] at hP2
  have hS2 : va_S A s.heap H locs := by rw [hH]; exact hS
  suffices hgo : W p l e (headSpec wsX4_firstFailingPair ({ frames := 5, cells := 0, slots := 0, locals := 114 })).room s m (([.ref ax, .int p0] : List Value).toArray) below meth c H locs 0 0 (MQ below (va_Qi (fun (r : Int32) (_ : Unit) => r = res) (QW (dC, dI) cy A [(ax, .inr (4, [.ref axr, .ref axt, .ref axm, .ref axb, .ref axe, .int vxk])), (axr, .inr (2, [.ref axrd, .int vxrs])), (axrd, .inl (cy, 8, .inl fxrd)), (axb, .inr (3, [.int vxbb])), (axe, .inr (1, [.ref axej])), (axej, .inl (cy, 6, .inl fxej))]) A) (([.ref ax, .int p0] : List Value).toArray) s 0 0 A) (F0 m 0 ls []) by rw [hH] at hgo; exact hgo
  replace hP := hP2
  replace hS := hS2
  clear hP2 hS2
  unfold fX4_firstFailingPair at h
  refine lv_iconst (v := (0 : Int32)) hx hb dX4_firstFailingPair_0 (by decide) ?_
  refine lv_istore_n (lv' := [(2, .int (0 : Int32)), (0, .ref ax), (1, .int p0)]) hx hb dX4_firstFailingPair_1 rfl hl (by decide) rfl (fun ls hl => ?_)
  have L2_8 : ∀ (n : Nat) (l1 : Int32) (l2 : Int32) (rs : ((Int32) ⊕ (Int32))) (H : Heap) (locs : List Loc) (ls : Array Slot), fX4_firstFailingPair_L2 n l1 l2 vxk vxrs fxrd vxbb fxej = some rs → lv_has ls 4 [(0, .ref ax), (1, .int l1), (2, .int l2)] → va_P (dC, dI) vwCl [(ax, .inr (4, [.ref axr, .ref axt, .ref axm, .ref axb, .ref axe, .int vxk])), (axr, .inr (2, [.ref axrd, .int vxrs])), (axrd, .inl (cy, 8, .inl fxrd)), (axb, .inr (3, [.int vxbb])), (axe, .inr (1, [.ref axej])), (axej, .inl (cy, 6, .inl fxej))] H → va_D A [(ax, .inr (4, [.ref axr, .ref axt, .ref axm, .ref axb, .ref axe, .int vxk])), (axr, .inr (2, [.ref axrd, .int vxrs])), (axrd, .inl (cy, 8, .inl fxrd)), (axb, .inr (3, [.int vxbb])), (axe, .inr (1, [.ref axej])), (axej, .inl (cy, 6, .inl fxej))] → va_S A s.heap H locs → (∀ q, rs = .inl q → q = res) → (∀ q, rs = .inr q → (∀ (H : Heap) (locs : List Loc) (ls : Array Slot), lv_has ls 4 [(0, .ref ax), (1, .int l1), (2, .int q)] → va_P (dC, dI) vwCl [(ax, .inr (4, [.ref axr, .ref axt, .ref axm, .ref axb, .ref axe, .int vxk])), (axr, .inr (2, [.ref axrd, .int vxrs])), (axrd, .inl (cy, 8, .inl fxrd)), (axb, .inr (3, [.int vxbb])), (axe, .inr (1, [.ref axej])), (axej, .inl (cy, 6, .inl fxej))] H → va_D A [(ax, .inr (4, [.ref axr, .ref axt, .ref axm, .ref axb, .ref axe, .int vxk])), (axr, .inr (2, [.ref axrd, .int vxrs])), (axrd, .inl (cy, 8, .inl fxrd)), (axb, .inr (3, [.int vxbb])), (axe, .inr (1, [.ref axej])), (axej, .inl (cy, 6, .inl fxej))] → va_S A s.heap H locs → W p l e (headSpec wsX4_firstFailingPair ({ frames := 5, cells := 0, slots := 0, locals := 114 })).room s m (([.ref ax, .int p0] : List Value).toArray) below meth c H locs 0 0 (MQ below (va_Qi (fun (r : Int32) (_ : Unit) => r = res) (QW (dC, dI) cy A [(ax, .inr (4, [.ref axr, .ref axt, .ref axm, .ref axb, .ref axe, .int vxk])), (axr, .inr (2, [.ref axrd, .int vxrs])), (axrd, .inl (cy, 8, .inl fxrd)), (axb, .inr (3, [.int vxbb])), (axe, .inr (1, [.ref axej])), (axej, .inl (cy, 6, .inl fxej))]) A) (([.ref ax, .int p0] : List Value).toArray) s 0 0 A) (F0 m 55 ls []))) → W p l e (headSpec wsX4_firstFailingPair ({ frames := 5, cells := 0, slots := 0, locals := 114 })).room s m (([.ref ax, .int p0] : List Value).toArray) below meth c H locs 0 0 (MQ below (va_Qi (fun (r : Int32) (_ : Unit) => r = res) (QW (dC, dI) cy A [(ax, .inr (4, [.ref axr, .ref axt, .ref axm, .ref axb, .ref axe, .int vxk])), (axr, .inr (2, [.ref axrd, .int vxrs])), (axrd, .inl (cy, 8, .inl fxrd)), (axb, .inr (3, [.int vxbb])), (axe, .inr (1, [.ref axej])), (axej, .inl (cy, 6, .inl fxej))]) A) (([.ref ax, .int p0] : List Value).toArray) s 0 0 A) (F0 m 2 ls []) := by
    intro n
    induction n with
    | zero =>
      intro l1 l2 rs H locs ls h
      rw [fX4_firstFailingPair_L2_0] at h
      cases h
    | succ n ih =>
      intro l1 l2 rs H locs ls h hl hP hD hS kr kx
      rw [fX4_firstFailingPair_L2_s] at h
      refine lv_iload_n hx hb dX4_firstFailingPair_2 rfl (lv_at hl 2 rfl) ?_
      refine lv_bipush (v := (8 : Int32)) hx hb dX4_firstFailingPair_3 (by decide) ?_
      refine lv_icmp_ge (tgt := 55) hx hb dX4_firstFailingPair_5 (by decide) (fun c8 => ?_) (fun c8 => ?_)
      · rw [if_pos c8] at h
        have h0 := Option.some.inj h
        subst h0
        exact kx _ rfl H locs ls (lv_sub hl [0, 1, 2] rfl) hP hD hS
      · rw [if_neg c8] at h
        refine lv_iconst (v := (0 : Int32)) hx hb dX4_firstFailingPair_8 (by decide) ?_
        refine lv_istore_n (lv' := [(3, .int (0 : Int32)), (0, .ref ax), (1, .int l1), (2, .int l2)]) hx hb dX4_firstFailingPair_9 rfl hl (by decide) rfl (fun ls hl => ?_)
        have L10_5 : ∀ (n : Nat) (l1 : Int32) (l2 : Int32) (l3 : Int32) (rs : ((Int32) ⊕ (Int32))) (H : Heap) (locs : List Loc) (ls : Array Slot), fX4_firstFailingPair_L10 n l1 l2 l3 vxk vxrs fxrd vxbb fxej = some rs → lv_has ls 4 [(0, .ref ax), (1, .int l1), (2, .int l2), (3, .int l3)] → va_P (dC, dI) vwCl [(ax, .inr (4, [.ref axr, .ref axt, .ref axm, .ref axb, .ref axe, .int vxk])), (axr, .inr (2, [.ref axrd, .int vxrs])), (axrd, .inl (cy, 8, .inl fxrd)), (axb, .inr (3, [.int vxbb])), (axe, .inr (1, [.ref axej])), (axej, .inl (cy, 6, .inl fxej))] H → va_D A [(ax, .inr (4, [.ref axr, .ref axt, .ref axm, .ref axb, .ref axe, .int vxk])), (axr, .inr (2, [.ref axrd, .int vxrs])), (axrd, .inl (cy, 8, .inl fxrd)), (axb, .inr (3, [.int vxbb])), (axe, .inr (1, [.ref axej])), (axej, .inl (cy, 6, .inl fxej))] → va_S A s.heap H locs → (∀ q, rs = .inl q → q = res) → (∀ q, rs = .inr q → (∀ (H : Heap) (locs : List Loc) (ls : Array Slot), lv_has ls 4 [(0, .ref ax), (1, .int l1), (2, .int l2), (3, .int q)] → va_P (dC, dI) vwCl [(ax, .inr (4, [.ref axr, .ref axt, .ref axm, .ref axb, .ref axe, .int vxk])), (axr, .inr (2, [.ref axrd, .int vxrs])), (axrd, .inl (cy, 8, .inl fxrd)), (axb, .inr (3, [.int vxbb])), (axe, .inr (1, [.ref axej])), (axej, .inl (cy, 6, .inl fxej))] H → va_D A [(ax, .inr (4, [.ref axr, .ref axt, .ref axm, .ref axb, .ref axe, .int vxk])), (axr, .inr (2, [.ref axrd, .int vxrs])), (axrd, .inl (cy, 8, .inl fxrd)), (axb, .inr (3, [.int vxbb])), (axe, .inr (1, [.ref axej])), (axej, .inl (cy, 6, .inl fxej))] → va_S A s.heap H locs → W p l e (headSpec wsX4_firstFailingPair ({ frames := 5, cells := 0, slots := 0, locals := 114 })).room s m (([.ref ax, .int p0] : List Value).toArray) below meth c H locs 0 0 (MQ below (va_Qi (fun (r : Int32) (_ : Unit) => r = res) (QW (dC, dI) cy A [(ax, .inr (4, [.ref axr, .ref axt, .ref axm, .ref axb, .ref axe, .int vxk])), (axr, .inr (2, [.ref axrd, .int vxrs])), (axrd, .inl (cy, 8, .inl fxrd)), (axb, .inr (3, [.int vxbb])), (axe, .inr (1, [.ref axej])), (axej, .inl (cy, 6, .inl fxej))]) A) (([.ref ax, .int p0] : List Value).toArray) s 0 0 A) (F0 m 49 ls []))) → W p l e (headSpec wsX4_firstFailingPair ({ frames := 5, cells := 0, slots := 0, locals := 114 })).room s m (([.ref ax, .int p0] : List Value).toArray) below meth c H locs 0 0 (MQ below (va_Qi (fun (r : Int32) (_ : Unit) => r = res) (QW (dC, dI) cy A [(ax, .inr (4, [.ref axr, .ref axt, .ref axm, .ref axb, .ref axe, .int vxk])), (axr, .inr (2, [.ref axrd, .int vxrs])), (axrd, .inl (cy, 8, .inl fxrd)), (axb, .inr (3, [.int vxbb])), (axe, .inr (1, [.ref axej])), (axej, .inl (cy, 6, .inl fxej))]) A) (([.ref ax, .int p0] : List Value).toArray) s 0 0 A) (F0 m 10 ls []) := by
          intro n
          induction n with
          | zero =>
            intro l1 l2 l3 rs H locs ls h
            rw [fX4_firstFailingPair_L10_0] at h
            cases h
          | succ n ih =>
            intro l1 l2 l3 rs H locs ls h hl hP hD hS kr kx
            rw [fX4_firstFailingPair_L10_s] at h
            refine lv_iload_n hx hb dX4_firstFailingPair_10 rfl (lv_at hl 3 rfl) ?_
            refine lv_bipush (v := (8 : Int32)) hx hb dX4_firstFailingPair_11 (by decide) ?_
            refine lv_icmp_ge (tgt := 49) hx hb dX4_firstFailingPair_13 (by decide) (fun c5 => ?_) (fun c5 => ?_)
            · rw [if_pos c5] at h
              have h0 := Option.some.inj h
              subst h0
              exact kx _ rfl H locs ls (lv_sub hl [0, 1, 2, 3] rfl) hP hD hS
            · rw [if_neg c5] at h
              refine lv_aload_n hx hb dX4_firstFailingPair_16 rfl (lv_at hl 0 rfl) ?_
              refine lv_iload_n hx hb dX4_firstFailingPair_17 rfl (lv_at hl 1 rfl) ?_
              refine lv_iload_n hx hb dX4_firstFailingPair_18 rfl (lv_at hl 2 rfl) ?_
              refine lv_iload_n hx hb dX4_firstFailingPair_19 rfl (lv_at hl 3 rfl) ?_
              obtain ⟨r1, hr1, h⟩ := bd_some h
              have hFc := va_free (wc := [(ax, .inr (4, [.ref axr, .ref axt, .ref axm, .ref axb, .ref axe, .int vxk])), (axr, .inr (2, [.ref axrd, .int vxrs]))]) hD hS hA [0, 1] rfl
              refine va_calli (va_runV (As := [.int l1, .int l2, .int l3]) (rest := []) ⟨hx, hb, hml, hown, hts⟩ (c_X4_isLook l dC dI cy ax axr axt axm axb axe axrd H.size vxk vxrs l1 l2 l3 r1 hr1) (cwV 3 hts gX4_firstFailingPair_X4_isLook rfl rfl rfl (by decide +kernel) ⟨Nat.le_of_ble_eq_true rfl, Nat.le_of_ble_eq_true rfl⟩) ⟨PW_fb, va_recv hK hP (ci := 4) (q0 := 0) rfl rfl, PW_pre (hP.sub (ws' := [(ax, .inr (4, [.ref axr, .ref axt, .ref axm, .ref axb, .ref axe, .int vxk])), (axr, .inr (2, [.ref axrd, .int vxrs]))]) [0, 1] rfl) hK (hD.sub [0, 1] (by decide) rfl) hN⟩ rfl rfl hl.1 rfl (lv_room (Nat.le_of_ble_eq_true rfl)) dX4_firstFailingPair_20 ⟨Nat.zero_le _, Nat.zero_le _⟩) hS (fun q _ h => hFc q h) hFc (fun rz u t H locs ht hvm hw hB hz1 hk1 hS => ?_)
              obtain ⟨hP, hD⟩ := jn (wr := [(axrd, .inl (cy, 8, .inl fxrd)), (axb, .inr (3, [.int vxbb])), (axe, .inr (1, [.ref axej])), (axej, .inl (cy, 6, .inl fxej))]) (w1 := [(ax, .inr (4, [.ref axr, .ref axt, .ref axm, .ref axb, .ref axe, .int vxk])), (axr, .inr (2, [.ref axrd, .int vxrs]))]) (ws' := [(ax, .inr (4, [.ref axr, .ref axt, .ref axm, .ref axb, .ref axe, .int vxk])), (axr, .inr (2, [.ref axrd, .int vxrs])), (axrd, .inl (cy, 8, .inl fxrd)), (axb, .inr (3, [.int vxbb])), (axe, .inr (1, [.ref axej])), (axej, .inl (cy, 6, .inl fxej))]) hP hD [0, 1] [2, 3, 4, 5] rfl rfl (by decide) (by decide) hk1 hFc hB ht [4, 5, 0, 1, 2, 3] rfl (by decide) rfl
              obtain ⟨hw, br1⟩ := hw
              replace hw := hw.symm
              subst hw
              clear hFc hB hk1 hz1 hvm
              refine lv_if_eq (tgt := 43) hx hb dX4_firstFailingPair_23 (by decide) (fun c4 => ?_) (fun c4 => ?_)
              · rw [if_pos c4] at h
                refine lv_iinc (v := l3 + (1 : Int32)) (lv' := [(3, .int (l3 + (1 : Int32))), (0, .ref ax), (1, .int l1), (2, .int l2)]) hx hb dX4_firstFailingPair_43 hl (k := 3) rfl rfl (by decide) rfl (fun ls hl => ?_)
                refine lv_goto (tgt := 10) hx hb dX4_firstFailingPair_46 (by decide) ?_
                exact ih l1 l2 (l3 + (1 : Int32)) rs H locs ls h (lv_sub hl [1, 2, 3, 0] rfl) hP hD hS kr kx
              · rw [if_neg c4] at h
                refine lv_aload_n hx hb dX4_firstFailingPair_26 rfl (lv_at hl 0 rfl) ?_
                refine lv_iload_n hx hb dX4_firstFailingPair_27 rfl (lv_at hl 1 rfl) ?_
                refine lv_iload_n hx hb dX4_firstFailingPair_28 rfl (lv_at hl 2 rfl) ?_
                refine lv_iload_n hx hb dX4_firstFailingPair_29 rfl (lv_at hl 3 rfl) ?_
                obtain ⟨r2, hr2, h⟩ := bd_some h
                have hFc := va_free (wc := [(ax, .inr (4, [.ref axr, .ref axt, .ref axm, .ref axb, .ref axe, .int vxk])), (axr, .inr (2, [.ref axrd, .int vxrs])), (axrd, .inl (cy, 8, .inl fxrd)), (axb, .inr (3, [.int vxbb])), (axe, .inr (1, [.ref axej])), (axej, .inl (cy, 6, .inl fxej))]) hD hS hA [0, 1, 2, 3, 4, 5] rfl
                refine va_calli (va_runV (As := [.int l1, .int l2, .int l3]) (rest := []) ⟨hx, hb, hml, hown, hts⟩ (c_X4_fails l dC dI cy ax axr axt axm axb axe axrd axej H.size vxk vxrs fxrd vxbb fxej l1 l2 l3 r2 hr2) (cwV 3 hts gX4_firstFailingPair_X4_fails rfl rfl rfl (by decide +kernel) ⟨Nat.le_of_ble_eq_true rfl, Nat.le_of_ble_eq_true rfl⟩) ⟨PW_fb, va_recv hK hP (ci := 4) (q0 := 0) rfl rfl, PW_pre (hP.sub (ws' := [(ax, .inr (4, [.ref axr, .ref axt, .ref axm, .ref axb, .ref axe, .int vxk])), (axr, .inr (2, [.ref axrd, .int vxrs])), (axrd, .inl (cy, 8, .inl fxrd)), (axb, .inr (3, [.int vxbb])), (axe, .inr (1, [.ref axej])), (axej, .inl (cy, 6, .inl fxej))]) [0, 1, 2, 3, 4, 5] rfl) hK (hD.sub [0, 1, 2, 3, 4, 5] (by decide) rfl) hN⟩ rfl rfl hl.1 rfl (lv_room (Nat.le_of_ble_eq_true rfl)) dX4_firstFailingPair_30 ⟨Nat.zero_le _, Nat.zero_le _⟩) hS (fun q _ h => hFc q h) hFc (fun rz u t H locs ht hvm hw hB hz1 hk1 hS => ?_)
                obtain ⟨hP, hD⟩ := jn (wr := []) (w1 := [(ax, .inr (4, [.ref axr, .ref axt, .ref axm, .ref axb, .ref axe, .int vxk])), (axr, .inr (2, [.ref axrd, .int vxrs])), (axrd, .inl (cy, 8, .inl fxrd)), (axb, .inr (3, [.int vxbb])), (axe, .inr (1, [.ref axej])), (axej, .inl (cy, 6, .inl fxej))]) (ws' := [(ax, .inr (4, [.ref axr, .ref axt, .ref axm, .ref axb, .ref axe, .int vxk])), (axr, .inr (2, [.ref axrd, .int vxrs])), (axrd, .inl (cy, 8, .inl fxrd)), (axb, .inr (3, [.int vxbb])), (axe, .inr (1, [.ref axej])), (axej, .inl (cy, 6, .inl fxej))]) hP hD [0, 1, 2, 3, 4, 5] [] rfl rfl (by decide) (by decide) hk1 hFc hB ht [0, 1, 2, 3, 4, 5] rfl (by decide) rfl
                obtain ⟨hw, br2⟩ := hw
                replace hw := hw.symm
                subst hw
                clear hFc hB hk1 hz1 hvm
                refine lv_if_eq (tgt := 43) hx hb dX4_firstFailingPair_33 (by decide) (fun c3 => ?_) (fun c3 => ?_)
                · rw [if_pos c3] at h
                  refine lv_iinc (v := l3 + (1 : Int32)) (lv' := [(3, .int (l3 + (1 : Int32))), (0, .ref ax), (1, .int l1), (2, .int l2)]) hx hb dX4_firstFailingPair_43 hl (k := 3) rfl rfl (by decide) rfl (fun ls hl => ?_)
                  refine lv_goto (tgt := 10) hx hb dX4_firstFailingPair_46 (by decide) ?_
                  exact ih l1 l2 (l3 + (1 : Int32)) rs H locs ls h (lv_sub hl [1, 2, 3, 0] rfl) hP hD hS kr kx
                · rw [if_neg c3] at h
                  refine lv_bipush (v := (100 : Int32)) hx hb dX4_firstFailingPair_36 (by decide) ?_
                  refine lv_iload_n hx hb dX4_firstFailingPair_38 rfl (lv_at hl 2 rfl) ?_
                  refine lv_imul hx hb dX4_firstFailingPair_39 ?_
                  refine lv_iload_n hx hb dX4_firstFailingPair_40 rfl (lv_at hl 3 rfl) ?_
                  refine lv_iadd hx hb dX4_firstFailingPair_41 ?_
                  have h0 := Option.some.inj h
                  subst h0
                  have hk := kr _ rfl
                  subst hk
                  exact W.iret hx hb hr (fun t ht hW => ⟨⟨_, (), rfl, rfl, QW_mk hP hK hD ht hW⟩, hS.F ht⟩) hS.2.2 dX4_firstFailingPair_42
        obtain ⟨rq7, hq7, kq7, xq7⟩ := bt_some h
        refine L10_5 FU l1 l2 (0 : Int32) rq7 H locs ls hq7 (lv_sub hl [1, 2, 3, 0] rfl) hP hD hS (fun z ez => kr z (kq7 z ez)) (fun q7 eq7 H locs ls hl hP hD hS => ?_)
        replace h := xq7 q7 eq7
        refine lv_iinc (v := l2 + (1 : Int32)) (lv' := [(2, .int (l2 + (1 : Int32))), (0, .ref ax), (1, .int l1), (3, .int q7)]) hx hb dX4_firstFailingPair_49 hl (k := 2) rfl rfl (by decide) rfl (fun ls hl => ?_)
        refine lv_goto (tgt := 2) hx hb dX4_firstFailingPair_52 (by decide) ?_
        exact ih l1 (l2 + (1 : Int32)) rs H locs ls h (lv_sub hl [1, 2, 0] rfl) hP hD hS kr kx
  obtain ⟨rq10, hq10, kq10, xq10⟩ := bs_some h
  refine L2_8 FU p0 (0 : Int32) rq10 H locs ls hq10 (lv_sub hl [1, 2, 0] rfl) hP hD hS kq10 (fun q10 eq10 H locs ls hl hP hD hS => ?_)
  replace h := xq10 q10 eq10
  refine lv_iconst (v := (-1 : Int32)) hx hb dX4_firstFailingPair_55 (by decide) ?_
  have h0 := Option.some.inj h
  subst h0
  exact W.iret hx hb hr (fun t ht hW => ⟨⟨_, (), rfl, rfl, QW_mk hP hK hD ht hW⟩, hS.F ht⟩) hS.2.2 dX4_firstFailingPair_56

noncomputable def fX4_witness (vxk : Int32) (vxrs : Int32) (fxrd : Nat → Int32) (vxbb : Int32) (fxej : Nat → Int32) (p0 : Int32) : Option (Int32) := if p0 = (5 : Int32) then (bd (fX4_firstFailingSet vxk vxrs fxrd vxbb fxej) fun r5 => some r5) else (if p0 = 0 then (bd (fX4_firstFailingPair vxk vxrs fxrd vxbb fxej p0) fun r1 => some r1) else (if p0 = (4 : Int32) then (bd (fX4_firstFailingPair vxk vxrs fxrd vxbb fxej p0) fun r2 => some r2) else (some (-2 : Int32))))
set_option maxHeartbeats 4000000 in
set_option maxRecDepth 100000 in
theorem c_X4_witness (l : Launch) (dC : Nat → ClassId) (dI : Nat → Nat → Nat) (cy : ClassId) (ax axr axt axm axb axe axrd axej : Nat) (sz : Nat) (vxk : Int32) (vxrs : Int32) (fxrd : Nat → Int32) (vxbb : Int32) (fxej : Nat → Int32) (p0 : Int32) (res : Int32) (h : fX4_witness vxk vxrs fxrd vxbb fxej p0 = some res) : Met l yX4_witness wsX4_witness ({ frames := 6, cells := 0, slots := 0, locals := 137 }) (va_Pc [.ref ax, .int p0] (PW (dC, dI) cy sz [(ax, .inr (4, [.ref axr, .ref axt, .ref axm, .ref axb, .ref axe, .int vxk])), (axr, .inr (2, [.ref axrd, .int vxrs])), (axrd, .inl (cy, 8, .inl fxrd)), (axb, .inr (3, [.int vxbb])), (axe, .inr (1, [.ref axej])), (axej, .inl (cy, 6, .inl fxej))])) (va_Qi (fun (r : Int32) (_ : Unit) => r = res) (QW (dC, dI) cy (va_A [(ax, .inr (4, [.ref axr, .ref axt, .ref axm, .ref axb, .ref axe, .int vxk])), (axr, .inr (2, [.ref axrd, .int vxrs])), (axrd, .inl (cy, 8, .inl fxrd)), (axb, .inr (3, [.int vxbb])), (axe, .inr (1, [.ref axej])), (axej, .inl (cy, 6, .inl fxej))] sz) [(ax, .inr (4, [.ref axr, .ref axt, .ref axm, .ref axb, .ref axe, .int vxk])), (axr, .inr (2, [.ref axrd, .int vxrs])), (axrd, .inl (cy, 8, .inl fxrd)), (axb, .inr (3, [.int vxbb])), (axe, .inr (1, [.ref axej])), (axej, .inl (cy, 6, .inl fxej))]) (va_A [(ax, .inr (4, [.ref axr, .ref axt, .ref axm, .ref axb, .ref axe, .int vxk])), (axr, .inr (2, [.ref axrd, .int vxrs])), (axrd, .inl (cy, 8, .inl fxrd)), (axb, .inr (3, [.int vxbb])), (axe, .inr (1, [.ref axej])), (axej, .inl (cy, 6, .inl fxej))] sz)) 0 0 (va_A [(ax, .inr (4, [.ref axr, .ref axt, .ref axm, .ref axb, .ref axe, .int vxk])), (axr, .inr (2, [.ref axrd, .int vxrs])), (axrd, .inl (cy, 8, .inl fxrd)), (axb, .inr (3, [.int vxbb])), (axe, .inr (1, [.ref axej])), (axej, .inl (cy, 6, .inl fxej))] sz) := by
  refine Met.ofW (cc := cX4_witness) (maxL := 2) (ret := (some .int)) (by decide) rfl ?_
  intro p e s m args below meth c s₁ B hml hv
  obtain ⟨rfl, hsz, hP, hK, hD0, hN⟩ := hv
  have hx := B.exec
  have hb := B.bytes
  have hr := B.returns
  have hts := atoms_spec (ws := wsX4_witness) B.pre
  have hown : s.vm.findClass RX4 = some m.cls := findClass_of_methodNamed B.named
  have hlocks := B.notSynchronized
  subst hsz
  have hD := hD0.self (sz := s.heap.size)
  clear hD0
  generalize hAe : va_A [(ax, .inr (4, [.ref axr, .ref axt, .ref axm, .ref axb, .ref axe, .int vxk])), (axr, .inr (2, [.ref axrd, .int vxrs])), (axrd, .inl (cy, 8, .inl fxrd)), (axb, .inr (3, [.int vxbb])), (axe, .inr (1, [.ref axej])), (axej, .inl (cy, 6, .inl fxej))] s.heap.size = A at hD ⊢
  have hA : ∀ q : Nat, s.heap.size ≤ q → A q := fun q h => by rw [← hAe]; exact Or.inr h
  have hS : va_S A s.heap s.heap [] := va_S.rf
  have hl := lv_entry ([.ref ax, .int p0]) (n := 2) (Nat.le_of_ble_eq_true rfl)
  rw [lg_entry_eq]
  generalize (lg_sl ([.ref ax, .int p0]) ++ List.replicate (2 - (lg_sl ([.ref ax, .int p0])).length) Slot.unset).toArray = ls at hl ⊢
  replace hl : lv_has ls 2 [(0, .ref ax), (1, .int p0)] := hl
  replace hP : va_P (dC, dI) vwCl [(ax, .inr (4, [.ref axr, .ref axt, .ref axm, .ref axb, .ref axe, .int vxk])), (axr, .inr (2, [.ref axrd, .int vxrs])), (axrd, .inl (cy, 8, .inl fxrd)), (axb, .inr (3, [.int vxbb])), (axe, .inr (1, [.ref axej])), (axej, .inl (cy, 6, .inl fxej))] s.heap := hP
  obtain ⟨locs, hlocs⟩ : ∃ lc : List Loc, lc = [] := ⟨_, rfl⟩
  rw [← hlocs] at hS ⊢
  obtain ⟨H, hH⟩ : ∃ H : Heap, H = s.heap := ⟨_, rfl⟩
  have hP2 := hP; rw [← hH] at hP2
  have hS2 : va_S A s.heap H locs := by rw [hH]; exact hS
  suffices hgo : W p l e (headSpec wsX4_witness ({ frames := 6, cells := 0, slots := 0, locals := 137 })).room s m (([.ref ax, .int p0] : List Value).toArray) below meth c H locs 0 0 (MQ below (va_Qi (fun (r : Int32) (_ : Unit) => r = res) (QW (dC, dI) cy A [(ax, .inr (4, [.ref axr, .ref axt, .ref axm, .ref axb, .ref axe, .int vxk])), (axr, .inr (2, [.ref axrd, .int vxrs])), (axrd, .inl (cy, 8, .inl fxrd)), (axb, .inr (3, [.int vxbb])), (axe, .inr (1, [.ref axej])), (axej, .inl (cy, 6, .inl fxej))]) A) (([.ref ax, .int p0] : List Value).toArray) s 0 0 A) (F0 m 0 ls []) by rw [hH] at hgo; exact hgo
  replace hP := hP2
  replace hS := hS2
  clear hP2 hS2
  unfold fX4_witness at h
  refine lv_iload_n hx hb dX4_witness_0 rfl (lv_at hl 1 rfl) ?_
  refine lv_iconst (v := (5 : Int32)) hx hb dX4_witness_1 (by decide) ?_
  refine lv_icmp_ne (tgt := 10) hx hb dX4_witness_2 (by decide) (fun c6 => ?_) (fun c6 => ?_)
  · rw [if_neg c6] at h
    refine lv_iload_n hx hb dX4_witness_10 rfl (lv_at hl 1 rfl) ?_
    refine lv_if_eq (tgt := 19) hx hb dX4_witness_11 (by decide) (fun c4 => ?_) (fun c4 => ?_)
    · rw [if_pos c4] at h
      refine lv_aload_n hx hb dX4_witness_19 rfl (lv_at hl 0 rfl) ?_
      refine lv_iload_n hx hb dX4_witness_20 rfl (lv_at hl 1 rfl) ?_
      obtain ⟨r1, hr1, h⟩ := bd_some h
      have hFc := va_free (wc := [(ax, .inr (4, [.ref axr, .ref axt, .ref axm, .ref axb, .ref axe, .int vxk])), (axr, .inr (2, [.ref axrd, .int vxrs])), (axrd, .inl (cy, 8, .inl fxrd)), (axb, .inr (3, [.int vxbb])), (axe, .inr (1, [.ref axej])), (axej, .inl (cy, 6, .inl fxej))]) hD hS hA [0, 1, 2, 3, 4, 5] rfl
      refine va_calli (va_runV (As := [.int p0]) (rest := []) ⟨hx, hb, hml, hown, hts⟩ (c_X4_firstFailingPair l dC dI cy ax axr axt axm axb axe axrd axej H.size vxk vxrs fxrd vxbb fxej p0 r1 hr1) (cwV 1 hts gX4_witness_X4_firstFailingPair rfl rfl rfl (by decide +kernel) ⟨Nat.le_of_ble_eq_true rfl, Nat.le_of_ble_eq_true rfl⟩) ⟨PW_fb, va_recv hK hP (ci := 4) (q0 := 0) rfl rfl, PW_pre (hP.sub (ws' := [(ax, .inr (4, [.ref axr, .ref axt, .ref axm, .ref axb, .ref axe, .int vxk])), (axr, .inr (2, [.ref axrd, .int vxrs])), (axrd, .inl (cy, 8, .inl fxrd)), (axb, .inr (3, [.int vxbb])), (axe, .inr (1, [.ref axej])), (axej, .inl (cy, 6, .inl fxej))]) [0, 1, 2, 3, 4, 5] rfl) hK (hD.sub [0, 1, 2, 3, 4, 5] (by decide) rfl) hN⟩ rfl rfl hl.1 rfl (lv_room (Nat.le_of_ble_eq_true rfl)) dX4_witness_21 ⟨Nat.zero_le _, Nat.zero_le _⟩) hS (fun q _ h => hFc q h) hFc (fun rz u t H locs ht hvm hw hB hz1 hk1 hS => ?_)
      obtain ⟨hP, hD⟩ := jn (wr := []) (w1 := [(ax, .inr (4, [.ref axr, .ref axt, .ref axm, .ref axb, .ref axe, .int vxk])), (axr, .inr (2, [.ref axrd, .int vxrs])), (axrd, .inl (cy, 8, .inl fxrd)), (axb, .inr (3, [.int vxbb])), (axe, .inr (1, [.ref axej])), (axej, .inl (cy, 6, .inl fxej))]) (ws' := [(ax, .inr (4, [.ref axr, .ref axt, .ref axm, .ref axb, .ref axe, .int vxk])), (axr, .inr (2, [.ref axrd, .int vxrs])), (axrd, .inl (cy, 8, .inl fxrd)), (axb, .inr (3, [.int vxbb])), (axe, .inr (1, [.ref axej])), (axej, .inl (cy, 6, .inl fxej))]) hP hD [0, 1, 2, 3, 4, 5] [] rfl rfl (by decide) (by decide) hk1 hFc hB ht [0, 1, 2, 3, 4, 5] rfl (by decide) rfl
      replace hw := hw.symm
      subst hw
      clear hFc hB hk1 hz1 hvm
      have h0 := Option.some.inj h
      subst h0
      exact W.iret hx hb hr (fun t ht hW => ⟨⟨_, (), rfl, rfl, QW_mk hP hK hD ht hW⟩, hS.F ht⟩) hS.2.2 dX4_witness_24
    · rw [if_neg c4] at h
      refine lv_iload_n hx hb dX4_witness_14 rfl (lv_at hl 1 rfl) ?_
      refine lv_iconst (v := (4 : Int32)) hx hb dX4_witness_15 (by decide) ?_
      refine lv_icmp_ne (tgt := 25) hx hb dX4_witness_16 (by decide) (fun c3 => ?_) (fun c3 => ?_)
      · rw [if_neg c3] at h
        refine lv_bipush (v := (-2 : Int32)) hx hb dX4_witness_25 (by decide) ?_
        have h0 := Option.some.inj h
        subst h0
        exact W.iret hx hb hr (fun t ht hW => ⟨⟨_, (), rfl, rfl, QW_mk hP hK hD ht hW⟩, hS.F ht⟩) hS.2.2 dX4_witness_27
      · rw [if_pos c3] at h
        refine lv_aload_n hx hb dX4_witness_19 rfl (lv_at hl 0 rfl) ?_
        refine lv_iload_n hx hb dX4_witness_20 rfl (lv_at hl 1 rfl) ?_
        obtain ⟨r2, hr2, h⟩ := bd_some h
        have hFc := va_free (wc := [(ax, .inr (4, [.ref axr, .ref axt, .ref axm, .ref axb, .ref axe, .int vxk])), (axr, .inr (2, [.ref axrd, .int vxrs])), (axrd, .inl (cy, 8, .inl fxrd)), (axb, .inr (3, [.int vxbb])), (axe, .inr (1, [.ref axej])), (axej, .inl (cy, 6, .inl fxej))]) hD hS hA [0, 1, 2, 3, 4, 5] rfl
        refine va_calli (va_runV (As := [.int p0]) (rest := []) ⟨hx, hb, hml, hown, hts⟩ (c_X4_firstFailingPair l dC dI cy ax axr axt axm axb axe axrd axej H.size vxk vxrs fxrd vxbb fxej p0 r2 hr2) (cwV 1 hts gX4_witness_X4_firstFailingPair rfl rfl rfl (by decide +kernel) ⟨Nat.le_of_ble_eq_true rfl, Nat.le_of_ble_eq_true rfl⟩) ⟨PW_fb, va_recv hK hP (ci := 4) (q0 := 0) rfl rfl, PW_pre (hP.sub (ws' := [(ax, .inr (4, [.ref axr, .ref axt, .ref axm, .ref axb, .ref axe, .int vxk])), (axr, .inr (2, [.ref axrd, .int vxrs])), (axrd, .inl (cy, 8, .inl fxrd)), (axb, .inr (3, [.int vxbb])), (axe, .inr (1, [.ref axej])), (axej, .inl (cy, 6, .inl fxej))]) [0, 1, 2, 3, 4, 5] rfl) hK (hD.sub [0, 1, 2, 3, 4, 5] (by decide) rfl) hN⟩ rfl rfl hl.1 rfl (lv_room (Nat.le_of_ble_eq_true rfl)) dX4_witness_21 ⟨Nat.zero_le _, Nat.zero_le _⟩) hS (fun q _ h => hFc q h) hFc (fun rz u t H locs ht hvm hw hB hz1 hk1 hS => ?_)
        obtain ⟨hP, hD⟩ := jn (wr := []) (w1 := [(ax, .inr (4, [.ref axr, .ref axt, .ref axm, .ref axb, .ref axe, .int vxk])), (axr, .inr (2, [.ref axrd, .int vxrs])), (axrd, .inl (cy, 8, .inl fxrd)), (axb, .inr (3, [.int vxbb])), (axe, .inr (1, [.ref axej])), (axej, .inl (cy, 6, .inl fxej))]) (ws' := [(ax, .inr (4, [.ref axr, .ref axt, .ref axm, .ref axb, .ref axe, .int vxk])), (axr, .inr (2, [.ref axrd, .int vxrs])), (axrd, .inl (cy, 8, .inl fxrd)), (axb, .inr (3, [.int vxbb])), (axe, .inr (1, [.ref axej])), (axej, .inl (cy, 6, .inl fxej))]) hP hD [0, 1, 2, 3, 4, 5] [] rfl rfl (by decide) (by decide) hk1 hFc hB ht [0, 1, 2, 3, 4, 5] rfl (by decide) rfl
        replace hw := hw.symm
        subst hw
        clear hFc hB hk1 hz1 hvm
        have h0 := Option.some.inj h
        subst h0
        exact W.iret hx hb hr (fun t ht hW => ⟨⟨_, (), rfl, rfl, QW_mk hP hK hD ht hW⟩, hS.F ht⟩) hS.2.2 dX4_witness_24
  · rw [if_pos c6] at h
    refine lv_aload_n hx hb dX4_witness_5 rfl (lv_at hl 0 rfl) ?_
    obtain ⟨r5, hr5, h⟩ := bd_some h
    have hFc := va_free (wc := [(ax, .inr (4, [.ref axr, .ref axt, .ref axm, .ref axb, .ref axe, .int vxk])), (axr, .inr (2, [.ref axrd, .int vxrs])), (axrd, .inl (cy, 8, .inl fxrd)), (axb, .inr (3, [.int vxbb])), (axe, .inr (1, [.ref axej])), (axej, .inl (cy, 6, .inl fxej))]) hD hS hA [0, 1, 2, 3, 4, 5] rfl
    refine va_calli (va_runV (As := []) (rest := []) ⟨hx, hb, hml, hown, hts⟩ (c_X4_firstFailingSet l dC dI cy ax axr axt axm axb axe axrd axej H.size vxk vxrs fxrd vxbb fxej  r5 hr5) (cwV 0 hts gX4_witness_X4_firstFailingSet rfl rfl rfl (by decide +kernel) ⟨Nat.le_of_ble_eq_true rfl, Nat.le_of_ble_eq_true rfl⟩) ⟨PW_fb, va_recv hK hP (ci := 4) (q0 := 0) rfl rfl, PW_pre (hP.sub (ws' := [(ax, .inr (4, [.ref axr, .ref axt, .ref axm, .ref axb, .ref axe, .int vxk])), (axr, .inr (2, [.ref axrd, .int vxrs])), (axrd, .inl (cy, 8, .inl fxrd)), (axb, .inr (3, [.int vxbb])), (axe, .inr (1, [.ref axej])), (axej, .inl (cy, 6, .inl fxej))]) [0, 1, 2, 3, 4, 5] rfl) hK (hD.sub [0, 1, 2, 3, 4, 5] (by decide) rfl) hN⟩ rfl rfl hl.1 rfl (lv_room (Nat.le_of_ble_eq_true rfl)) dX4_witness_6 ⟨Nat.zero_le _, Nat.zero_le _⟩) hS (fun q _ h => hFc q h) hFc (fun rz u t H locs ht hvm hw hB hz1 hk1 hS => ?_)
    obtain ⟨hP, hD⟩ := jn (wr := []) (w1 := [(ax, .inr (4, [.ref axr, .ref axt, .ref axm, .ref axb, .ref axe, .int vxk])), (axr, .inr (2, [.ref axrd, .int vxrs])), (axrd, .inl (cy, 8, .inl fxrd)), (axb, .inr (3, [.int vxbb])), (axe, .inr (1, [.ref axej])), (axej, .inl (cy, 6, .inl fxej))]) (ws' := [(ax, .inr (4, [.ref axr, .ref axt, .ref axm, .ref axb, .ref axe, .int vxk])), (axr, .inr (2, [.ref axrd, .int vxrs])), (axrd, .inl (cy, 8, .inl fxrd)), (axb, .inr (3, [.int vxbb])), (axe, .inr (1, [.ref axej])), (axej, .inl (cy, 6, .inl fxej))]) hP hD [0, 1, 2, 3, 4, 5] [] rfl rfl (by decide) (by decide) hk1 hFc hB ht [0, 1, 2, 3, 4, 5] rfl (by decide) rfl
    replace hw := hw.symm
    subst hw
    clear hFc hB hk1 hz1 hvm
    have h0 := Option.some.inj h
    subst h0
    exact W.iret hx hb hr (fun t ht hW => ⟨⟨_, (), rfl, rfl, QW_mk hP hK hD ht hW⟩, hS.F ht⟩) hS.2.2 dX4_witness_9

noncomputable def fX4_count (vxk : Int32) (vxrs : Int32) (fxrd : Nat → Int32) (vxbb : Int32) (fxej : Nat → Int32) (p0 : Int32) : Option (Int32) := if p0 = (0 : Int32) then (some vxrs) else (if p0 = (1 : Int32) then (some vxk) else (if p0 = (2 : Int32) then (bd (fX1_lines fxej) fun r4 => some r4) else (if p0 = (3 : Int32) then (bd (fJ6_bitCount_0f7a4 vxbb) fun r6 => some r6) else (if p0 = (4 : Int32) then (bd (fX2_total vxrs fxrd) fun r8 => some r8) else (some (-2 : Int32))))))
set_option maxHeartbeats 4000000 in
set_option maxRecDepth 100000 in
theorem c_X4_count (l : Launch) (dC : Nat → ClassId) (dI : Nat → Nat → Nat) (cy : ClassId) (ax axr axt axm axb axe axrd axej : Nat) (sz : Nat) (vxk : Int32) (vxrs : Int32) (fxrd : Nat → Int32) (vxbb : Int32) (fxej : Nat → Int32) (p0 : Int32) (res : Int32) (h : fX4_count vxk vxrs fxrd vxbb fxej p0 = some res) : Met l yX4_count wsX4_count ({ frames := 3, cells := 0, slots := 0, locals := 65 }) (va_Pc [.ref ax, .int p0] (PW (dC, dI) cy sz [(ax, .inr (4, [.ref axr, .ref axt, .ref axm, .ref axb, .ref axe, .int vxk])), (axr, .inr (2, [.ref axrd, .int vxrs])), (axrd, .inl (cy, 8, .inl fxrd)), (axb, .inr (3, [.int vxbb])), (axe, .inr (1, [.ref axej])), (axej, .inl (cy, 6, .inl fxej))])) (va_Qi (fun (r : Int32) (_ : Unit) => r = res) (QW (dC, dI) cy (va_A [(ax, .inr (4, [.ref axr, .ref axt, .ref axm, .ref axb, .ref axe, .int vxk])), (axr, .inr (2, [.ref axrd, .int vxrs])), (axrd, .inl (cy, 8, .inl fxrd)), (axb, .inr (3, [.int vxbb])), (axe, .inr (1, [.ref axej])), (axej, .inl (cy, 6, .inl fxej))] sz) [(ax, .inr (4, [.ref axr, .ref axt, .ref axm, .ref axb, .ref axe, .int vxk])), (axr, .inr (2, [.ref axrd, .int vxrs])), (axrd, .inl (cy, 8, .inl fxrd)), (axb, .inr (3, [.int vxbb])), (axe, .inr (1, [.ref axej])), (axej, .inl (cy, 6, .inl fxej))]) (va_A [(ax, .inr (4, [.ref axr, .ref axt, .ref axm, .ref axb, .ref axe, .int vxk])), (axr, .inr (2, [.ref axrd, .int vxrs])), (axrd, .inl (cy, 8, .inl fxrd)), (axb, .inr (3, [.int vxbb])), (axe, .inr (1, [.ref axej])), (axej, .inl (cy, 6, .inl fxej))] sz)) 0 0 (va_A [(ax, .inr (4, [.ref axr, .ref axt, .ref axm, .ref axb, .ref axe, .int vxk])), (axr, .inr (2, [.ref axrd, .int vxrs])), (axrd, .inl (cy, 8, .inl fxrd)), (axb, .inr (3, [.int vxbb])), (axe, .inr (1, [.ref axej])), (axej, .inl (cy, 6, .inl fxej))] sz) := by
  refine Met.ofW (cc := cX4_count) (maxL := 2) (ret := (some .int)) (by decide) rfl ?_
  intro p e s m args below meth c s₁ B hml hv
  obtain ⟨rfl, hsz, hP, hK, hD0, hN⟩ := hv
  have hx := B.exec
  have hb := B.bytes
  have hr := B.returns
  have hts := atoms_spec (ws := wsX4_count) B.pre
  have hown : s.vm.findClass RX4 = some m.cls := findClass_of_methodNamed B.named
  have hlocks := B.notSynchronized
  subst hsz
  have hD := hD0.self (sz := s.heap.size)
  clear hD0
  generalize hAe : va_A [(ax, .inr (4, [.ref axr, .ref axt, .ref axm, .ref axb, .ref axe, .int vxk])), (axr, .inr (2, [.ref axrd, .int vxrs])), (axrd, .inl (cy, 8, .inl fxrd)), (axb, .inr (3, [.int vxbb])), (axe, .inr (1, [.ref axej])), (axej, .inl (cy, 6, .inl fxej))] s.heap.size = A at hD ⊢
  have hA : ∀ q : Nat, s.heap.size ≤ q → A q := fun q h => by rw [← hAe]; exact Or.inr h
  have hS : va_S A s.heap s.heap [] := va_S.rf
  have hl := lv_entry ([.ref ax, .int p0]) (n := 2) (Nat.le_of_ble_eq_true rfl)
  rw [lg_entry_eq]
  generalize (lg_sl ([.ref ax, .int p0]) ++ List.replicate (2 - (lg_sl ([.ref ax, .int p0])).length) Slot.unset).toArray = ls at hl ⊢
  replace hl : lv_has ls 2 [(0, .ref ax), (1, .int p0)] := hl
  replace hP : va_P (dC, dI) vwCl [(ax, .inr (4, [.ref axr, .ref axt, .ref axm, .ref axb, .ref axe, .int vxk])), (axr, .inr (2, [.ref axrd, .int vxrs])), (axrd, .inl (cy, 8, .inl fxrd)), (axb, .inr (3, [.int vxbb])), (axe, .inr (1, [.ref axej])), (axej, .inl (cy, 6, .inl fxej))] s.heap := hP
  obtain ⟨locs, hlocs⟩ : ∃ lc : List Loc, lc = [] := ⟨_, rfl⟩
  rw [← hlocs] at hS ⊢
  obtain ⟨H, hH⟩ : ∃ H : Heap, H = s.heap := ⟨_, rfl⟩
  have hP2 := hP; rw [← hH] at hP2
  have hS2 : va_S A s.heap H locs := by rw [hH]; exact hS
  suffices hgo : W p l e (headSpec wsX4_count ({ frames := 3, cells := 0, slots := 0, locals := 65 })).room s m (([.ref ax, .int p0] : List Value).toArray) below meth c H locs 0 0 (MQ below (va_Qi (fun (r : Int32) (_ : Unit) => r = res) (QW (dC, dI) cy A [(ax, .inr (4, [.ref axr, .ref axt, .ref axm, .ref axb, .ref axe, .int vxk])), (axr, .inr (2, [.ref axrd, .int vxrs])), (axrd, .inl (cy, 8, .inl fxrd)), (axb, .inr (3, [.int vxbb])), (axe, .inr (1, [.ref axej])), (axej, .inl (cy, 6, .inl fxej))]) A) (([.ref ax, .int p0] : List Value).toArray) s 0 0 A) (F0 m 0 ls []) by rw [hH] at hgo; exact hgo
  replace hP := hP2
  replace hS := hS2
  clear hP2 hS2
  have hin_X2 : ∀ w ∈ wsX20, w ∈ wsX4_count := by decide +kernel
  have hin_X3 : ∀ w ∈ wsX30, w ∈ wsX4_count := by decide +kernel
  have hin_X4 : ∀ w ∈ wsX40, w ∈ wsX4_count := by decide +kernel
  have hf_10 := hts (.fieldLink RX4 10 "FewLooks" "row" "LFewLooks$Row;") (by decide +kernel)
  have hf_29 := hts (.fieldLink RX4 29 "FewLooks" "table" "LFewLooks$Table;") (by decide +kernel)
  have hf_36 := hts (.fieldLink RX4 36 "FewLooks" "net" "LFewLooks$Net;") (by decide +kernel)
  have hf_40 := hts (.fieldLink RX4 40 "FewLooks" "drawn" "I") (by decide +kernel)
  unfold fX4_count at h
  refine lv_iload_n hx hb dX4_count_0 rfl (lv_at hl 1 rfl) ?_
  by_cases c1 : p0 = (0 : Int32)
  · rw [if_pos c1] at h
    have ec1 : (p0).toInt = 0 := by rw [c1]; rfl
    refine lv_tableIn (tgt := 36) hx hb dX4_count_1 (by rw [ec1]; decide) (by rw [ec1]; decide) (by rw [ec1]; rfl) (by decide) ?_
    refine lv_aload_n hx hb dX4_count_36 rfl (lv_at hl 0 rfl) ?_
    refine va_get (D := (dC, dI)) (ci := 4) (v := .ref axr) (C := RX4) (T := TX4) (N := 6) hx hb hts hin_X4 hown hK hP 0 rfl rfl 0 (by decide) (hf_10) (fun _ h9 => h9) rfl dX4_count_37 ?_
    refine va_getN (D := (dC, dI)) (ci := 2) (v := .int vxrs) (C := RX2) (T := TX2) (N := 2) hx hb hts hin_X2 hown hK hP 1 rfl rfl 1 (by decide) (va_Nw.use rfl (hN.1)) (fun _ h9 => h9) rfl dX4_count_40 ?_
    have h0 := Option.some.inj h
    subst h0
    exact W.iret hx hb hr (fun t ht hW => ⟨⟨_, (), rfl, rfl, QW_mk hP hK hD ht hW⟩, hS.F ht⟩) hS.2.2 dX4_count_43
  · rw [if_neg c1] at h
    by_cases c2 : p0 = (1 : Int32)
    · rw [if_pos c2] at h
      have ec2 : (p0).toInt = 1 := by rw [c2]; rfl
      refine lv_tableIn (tgt := 44) hx hb dX4_count_1 (by rw [ec2]; decide) (by rw [ec2]; decide) (by rw [ec2]; rfl) (by decide) ?_
      refine lv_aload_n hx hb dX4_count_44 rfl (lv_at hl 0 rfl) ?_
      refine va_get (D := (dC, dI)) (ci := 4) (v := .int vxk) (C := RX4) (T := TX4) (N := 6) hx hb hts hin_X4 hown hK hP 0 rfl rfl 5 (by decide) (hf_40) (fun _ h9 => h9) rfl dX4_count_45 ?_
      have h0 := Option.some.inj h
      subst h0
      exact W.iret hx hb hr (fun t ht hW => ⟨⟨_, (), rfl, rfl, QW_mk hP hK hD ht hW⟩, hS.F ht⟩) hS.2.2 dX4_count_48
    · rw [if_neg c2] at h
      by_cases c3 : p0 = (2 : Int32)
      · rw [if_pos c3] at h
        have ec3 : (p0).toInt = 2 := by rw [c3]; rfl
        refine lv_tableIn (tgt := 49) hx hb dX4_count_1 (by rw [ec3]; decide) (by rw [ec3]; decide) (by rw [ec3]; rfl) (by decide) ?_
        refine lv_aload_n hx hb dX4_count_49 rfl (lv_at hl 0 rfl) ?_
        refine va_get (D := (dC, dI)) (ci := 4) (v := .ref axe) (C := RX4) (T := TX4) (N := 6) hx hb hts hin_X4 hown hK hP 0 rfl rfl 4 (by decide) (hf_36) (fun _ h9 => h9) rfl dX4_count_50 ?_
        obtain ⟨r4, hr4, h⟩ := bd_some h
        have hFc := va_free (wc := [(axe, .inr (1, [.ref axej])), (axej, .inl (cy, 6, .inl fxej))]) hD hS hA [4, 5] rfl
        refine va_calli (va_runV (As := []) (rest := []) ⟨hx, hb, hml, hown, hts⟩ (c_X1_lines l dC dI cy axe axej H.size fxej  r4 hr4) (cwV 0 hts gX4_count_X1_lines rfl rfl rfl (by decide +kernel) ⟨Nat.le_of_ble_eq_true rfl, Nat.le_of_ble_eq_true rfl⟩) ⟨PW_fb, va_recv hK hP (ci := 1) (q0 := 4) rfl rfl, PW_pre (hP.sub (ws' := [(axe, .inr (1, [.ref axej])), (axej, .inl (cy, 6, .inl fxej))]) [4, 5] rfl) hK (hD.sub [4, 5] (by decide) rfl) hN⟩ rfl rfl hl.1 rfl (lv_room (Nat.le_of_ble_eq_true rfl)) dX4_count_53 ⟨Nat.zero_le _, Nat.zero_le _⟩) hS (fun q _ h => hFc q h) hFc (fun rz u t H locs ht hvm hw hB hz1 hk1 hS => ?_)
        obtain ⟨hP, hD⟩ := jn (wr := [(ax, .inr (4, [.ref axr, .ref axt, .ref axm, .ref axb, .ref axe, .int vxk])), (axr, .inr (2, [.ref axrd, .int vxrs])), (axrd, .inl (cy, 8, .inl fxrd)), (axb, .inr (3, [.int vxbb]))]) (w1 := [(axe, .inr (1, [.ref axej])), (axej, .inl (cy, 6, .inl fxej))]) (ws' := [(ax, .inr (4, [.ref axr, .ref axt, .ref axm, .ref axb, .ref axe, .int vxk])), (axr, .inr (2, [.ref axrd, .int vxrs])), (axrd, .inl (cy, 8, .inl fxrd)), (axb, .inr (3, [.int vxbb])), (axe, .inr (1, [.ref axej])), (axej, .inl (cy, 6, .inl fxej))]) hP hD [4, 5] [0, 1, 2, 3] rfl rfl (by decide) (by decide) hk1 hFc hB ht [0, 1, 2, 3, 4, 5] rfl (by decide) rfl
        replace hw := hw.symm
        subst hw
        clear hFc hB hk1 hz1 hvm
        have h0 := Option.some.inj h
        subst h0
        exact W.iret hx hb hr (fun t ht hW => ⟨⟨_, (), rfl, rfl, QW_mk hP hK hD ht hW⟩, hS.F ht⟩) hS.2.2 dX4_count_56
      · rw [if_neg c3] at h
        by_cases c5 : p0 = (3 : Int32)
        · rw [if_pos c5] at h
          have ec5 : (p0).toInt = 3 := by rw [c5]; rfl
          refine lv_tableIn (tgt := 57) hx hb dX4_count_1 (by rw [ec5]; decide) (by rw [ec5]; decide) (by rw [ec5]; rfl) (by decide) ?_
          refine lv_aload_n hx hb dX4_count_57 rfl (lv_at hl 0 rfl) ?_
          refine va_get (D := (dC, dI)) (ci := 4) (v := .ref axb) (C := RX4) (T := TX4) (N := 6) hx hb hts hin_X4 hown hK hP 0 rfl rfl 3 (by decide) (hf_29) (fun _ h9 => h9) rfl dX4_count_58 ?_
          refine va_getN (D := (dC, dI)) (ci := 3) (v := .int vxbb) (C := RX3) (T := TX3) (N := 1) hx hb hts hin_X3 hown hK hP 3 rfl rfl 0 (by decide) (va_Nw.use rfl (hN.2.2.1)) (fun _ h9 => h9) rfl dX4_count_61 ?_
          obtain ⟨r6, hr6, h⟩ := bd_some h
          have hFc := va_free (wc := []) hD hS hA [] rfl
          refine va_calli (va_runS (As := [.int vxbb]) (rest := []) ⟨hx, hb, hml, hown, hts⟩ (c_J6_bitCount_0f7a4 l dC dI cy  H.size  vxbb r6 hr6) (va_cwS 1 hts gX4_count_J6_bitCount_0f7a4 rfl rfl rfl (by decide +kernel) ⟨Nat.le_of_ble_eq_true rfl, Nat.le_of_ble_eq_true rfl⟩) ⟨PW_fb, PW_pre (hP.sub (ws' := []) [] rfl) hK (hD.sub [] (by decide) rfl) hN⟩ rfl rfl hl.1 rfl (lv_room (Nat.le_of_ble_eq_true rfl)) dX4_count_64 ⟨Nat.zero_le _, Nat.zero_le _⟩) hS (fun q _ h => hFc q h) hFc (fun rz u t H locs ht hvm hw hB hz1 hk1 hS => ?_)
          obtain ⟨hP, hD⟩ := jn (wr := [(ax, .inr (4, [.ref axr, .ref axt, .ref axm, .ref axb, .ref axe, .int vxk])), (axr, .inr (2, [.ref axrd, .int vxrs])), (axrd, .inl (cy, 8, .inl fxrd)), (axb, .inr (3, [.int vxbb])), (axe, .inr (1, [.ref axej])), (axej, .inl (cy, 6, .inl fxej))]) (w1 := []) (ws' := [(ax, .inr (4, [.ref axr, .ref axt, .ref axm, .ref axb, .ref axe, .int vxk])), (axr, .inr (2, [.ref axrd, .int vxrs])), (axrd, .inl (cy, 8, .inl fxrd)), (axb, .inr (3, [.int vxbb])), (axe, .inr (1, [.ref axej])), (axej, .inl (cy, 6, .inl fxej))]) hP hD [] [0, 1, 2, 3, 4, 5] rfl rfl (by decide) (by decide) hk1 hFc hB ht [0, 1, 2, 3, 4, 5] rfl (by decide) rfl
          replace hw := hw.symm
          subst hw
          clear hFc hB hk1 hz1 hvm
          have h0 := Option.some.inj h
          subst h0
          exact W.iret hx hb hr (fun t ht hW => ⟨⟨_, (), rfl, rfl, QW_mk hP hK hD ht hW⟩, hS.F ht⟩) hS.2.2 dX4_count_67
        · rw [if_neg c5] at h
          by_cases c7 : p0 = (4 : Int32)
          · rw [if_pos c7] at h
            have ec7 : (p0).toInt = 4 := by rw [c7]; rfl
            refine lv_tableIn (tgt := 68) hx hb dX4_count_1 (by rw [ec7]; decide) (by rw [ec7]; decide) (by rw [ec7]; rfl) (by decide) ?_
            refine lv_aload_n hx hb dX4_count_68 rfl (lv_at hl 0 rfl) ?_
            refine va_get (D := (dC, dI)) (ci := 4) (v := .ref axr) (C := RX4) (T := TX4) (N := 6) hx hb hts hin_X4 hown hK hP 0 rfl rfl 0 (by decide) (hf_10) (fun _ h9 => h9) rfl dX4_count_69 ?_
            obtain ⟨r8, hr8, h⟩ := bd_some h
            have hFc := va_free (wc := [(axr, .inr (2, [.ref axrd, .int vxrs])), (axrd, .inl (cy, 8, .inl fxrd))]) hD hS hA [1, 2] rfl
            refine va_calli (va_runV (As := []) (rest := []) ⟨hx, hb, hml, hown, hts⟩ (c_X2_total l dC dI cy axr axrd H.size vxrs fxrd  r8 hr8) (cwV 0 hts gX4_count_X2_total rfl rfl rfl (by decide +kernel) ⟨Nat.le_of_ble_eq_true rfl, Nat.le_of_ble_eq_true rfl⟩) ⟨PW_fb, va_recv hK hP (ci := 2) (q0 := 1) rfl rfl, PW_pre (hP.sub (ws' := [(axr, .inr (2, [.ref axrd, .int vxrs])), (axrd, .inl (cy, 8, .inl fxrd))]) [1, 2] rfl) hK (hD.sub [1, 2] (by decide) rfl) hN⟩ rfl rfl hl.1 rfl (lv_room (Nat.le_of_ble_eq_true rfl)) dX4_count_72 ⟨Nat.zero_le _, Nat.zero_le _⟩) hS (fun q _ h => hFc q h) hFc (fun rz u t H locs ht hvm hw hB hz1 hk1 hS => ?_)
            obtain ⟨hP, hD⟩ := jn (wr := [(ax, .inr (4, [.ref axr, .ref axt, .ref axm, .ref axb, .ref axe, .int vxk])), (axb, .inr (3, [.int vxbb])), (axe, .inr (1, [.ref axej])), (axej, .inl (cy, 6, .inl fxej))]) (w1 := [(axr, .inr (2, [.ref axrd, .int vxrs])), (axrd, .inl (cy, 8, .inl fxrd))]) (ws' := [(ax, .inr (4, [.ref axr, .ref axt, .ref axm, .ref axb, .ref axe, .int vxk])), (axr, .inr (2, [.ref axrd, .int vxrs])), (axrd, .inl (cy, 8, .inl fxrd)), (axb, .inr (3, [.int vxbb])), (axe, .inr (1, [.ref axej])), (axej, .inl (cy, 6, .inl fxej))]) hP hD [1, 2] [0, 3, 4, 5] rfl rfl (by decide) (by decide) hk1 hFc hB ht [0, 4, 5, 1, 2, 3] rfl (by decide) rfl
            replace hw := hw.symm
            subst hw
            clear hFc hB hk1 hz1 hvm
            have h0 := Option.some.inj h
            subst h0
            exact W.iret hx hb hr (fun t ht hW => ⟨⟨_, (), rfl, rfl, QW_mk hP hK hD ht hW⟩, hS.F ht⟩) hS.2.2 dX4_count_75
          · rw [if_neg c7] at h
            have hout := tb_out (x := p0) (n := 5) (by decide) (fun k hk => by rcases (show k = 0 ∨ k = 1 ∨ k = 2 ∨ k = 3 ∨ k = 4 by omega) with rfl | rfl | rfl | rfl | rfl; all_goals assumption)
            refine lv_tableOut (tgt := 76) hx hb dX4_count_1 hout (by decide) ?_
            refine lv_bipush (v := (-2 : Int32)) hx hb dX4_count_76 (by decide) ?_
            have h0 := Option.some.inj h
            subst h0
            exact W.iret hx hb hr (fun t ht hW => ⟨⟨_, (), rfl, rfl, QW_mk hP hK hD ht hW⟩, hS.F ht⟩) hS.2.2 dX4_count_78
