noncomputable def fX1_joined (fxj : Nat → Int32) (p0 : Int32) (p1 : Int32) : Option (Int32) := gin p0 6 (some (((fxj p0.toNatClampNeg) >>> (p1 &&& 31)) &&& (1 : Int32)))
set_option maxHeartbeats 4000000 in
set_option maxRecDepth 100000 in
theorem c_X1_joined (l : Launch) (dC : Nat → ClassId) (dI : Nat → Nat → Nat) (cy : ClassId) (ax axj : Nat) (sz : Nat) (fxj : Nat → Int32) (p0 : Int32) (p1 : Int32) (res : Int32) (h : fX1_joined fxj p0 p1 = some res) : Met l yX1_joined wsX1_joined ({ frames := 0, cells := 0, slots := 0, locals := 0 }) (va_Pc [.ref ax, .int p0, .int p1] (PW (dC, dI) cy sz [(ax, .inr (1, [.ref axj])), (axj, .inl (cy, 6, .inl fxj))])) (va_Qi (fun (r : Int32) (_ : Unit) => r = res) (QW (dC, dI) cy (va_A [(ax, .inr (1, [.ref axj])), (axj, .inl (cy, 6, .inl fxj))] sz) [(ax, .inr (1, [.ref axj])), (axj, .inl (cy, 6, .inl fxj))]) (va_A [(ax, .inr (1, [.ref axj])), (axj, .inl (cy, 6, .inl fxj))] sz)) 0 0 (va_A [(ax, .inr (1, [.ref axj])), (axj, .inl (cy, 6, .inl fxj))] sz) := by
  refine Met.ofW (cc := cX1_joined) (maxL := 3) (ret := (some .int)) (by decide) rfl ?_
  intro p e s m args below meth c s₁ B hml hv
  obtain ⟨rfl, hsz, hP, hK, hD0, hN⟩ := hv
  have hx := B.exec
  have hb := B.bytes
  have hr := B.returns
  have hts := atoms_spec (ws := wsX1_joined) B.pre
  have hown : s.vm.findClass RX1 = some m.cls := findClass_of_methodNamed B.named
  have hlocks := B.notSynchronized
  subst hsz
  have hD := hD0.self (sz := s.heap.size)
  clear hD0
  generalize hAe : va_A [(ax, .inr (1, [.ref axj])), (axj, .inl (cy, 6, .inl fxj))] s.heap.size = A at hD ⊢
  have hA : ∀ q : Nat, s.heap.size ≤ q → A q := fun q h => by rw [← hAe]; exact Or.inr h
  have hS : va_S A s.heap s.heap [] := va_S.rf
  have hl := lv_entry ([.ref ax, .int p0, .int p1]) (n := 3) (Nat.le_of_ble_eq_true rfl)
  rw [lg_entry_eq]
  generalize (lg_sl ([.ref ax, .int p0, .int p1]) ++ List.replicate (3 - (lg_sl ([.ref ax, .int p0, .int p1])).length) Slot.unset).toArray = ls at hl ⊢
  replace hl : lv_has ls 3 [(0, .ref ax), (1, .int p0), (2, .int p1)] := hl
  replace hP : va_P (dC, dI) vwCl [(ax, .inr (1, [.ref axj])), (axj, .inl (cy, 6, .inl fxj))] s.heap := hP
  obtain ⟨locs, hlocs⟩ : ∃ lc : List Loc, lc = [] := ⟨_, rfl⟩
  rw [← hlocs] at hS ⊢
  obtain ⟨H, hH⟩ : ∃ H : Heap, H = s.heap := ⟨_, rfl⟩
  have hP2 := hP; rw [← hH] at hP2
  have hS2 : va_S A s.heap H locs := by rw [hH]; exact hS
  suffices hgo : W p l e (headSpec wsX1_joined ({ frames := 0, cells := 0, slots := 0, locals := 0 })).room s m (([.ref ax, .int p0, .int p1] : List Value).toArray) below meth c H locs 0 0 (MQ below (va_Qi (fun (r : Int32) (_ : Unit) => r = res) (QW (dC, dI) cy A [(ax, .inr (1, [.ref axj])), (axj, .inl (cy, 6, .inl fxj))]) A) (([.ref ax, .int p0, .int p1] : List Value).toArray) s 0 0 A) (F0 m 0 ls []) by rw [hH] at hgo; exact hgo
  replace hP := hP2
  replace hS := hS2
  clear hP2 hS2
  have hin_X1 : ∀ w ∈ wsX10, w ∈ wsX1_joined := by decide +kernel
  have hf_9 := hts (.fieldLink RX1 9 "FewLooks$Net" "joins" "[I") (by decide +kernel)
  unfold fX1_joined at h
  refine lv_aload_n hx hb dX1_joined_0 rfl (lv_at hl 0 rfl) ?_
  refine va_get (D := (dC, dI)) (ci := 1) (v := .ref axj) (C := RX1) (T := TX1) (N := 1) hx hb hts hin_X1 hown hK hP 0 rfl rfl 0 (by decide) (hf_9) (fun _ h9 => h9) rfl dX1_joined_1 ?_
  refine lv_iload_n hx hb dX1_joined_4 rfl (lv_at hl 1 rfl) ?_
  obtain ⟨hi, h⟩ := gin_some h
  refine va_iald hx hb hK hP 1 0 rfl rfl hi dX1_joined_5 ?_
  refine lv_iload_n hx hb dX1_joined_6 rfl (lv_at hl 2 rfl) ?_
  refine lv_ishr hx hb dX1_joined_7 ?_
  refine lv_iconst (v := (1 : Int32)) hx hb dX1_joined_8 (by decide) ?_
  refine lv_iand hx hb dX1_joined_9 ?_
  have h0 := Option.some.inj h
  subst h0
  exact W.iret hx hb hr (fun t ht hW => ⟨⟨_, (), rfl, rfl, QW_mk hP hK hD ht hW⟩, hS.F ht⟩) hS.2.2 dX1_joined_10

noncomputable def fX1_join (fxj : Nat → Int32) (p0 : Int32) (p1 : Int32) (p2 : Int32) : Option ((Nat → Int32)) := if p2 = 0 then (gin p0 6 (gin p0 6 (gin p1 6 (gin p1 6 (some (upd (upd fxj p0.toNatClampNeg ((fxj p0.toNatClampNeg) &&& (((1 : Int32) <<< (p1 &&& 31)) ^^^ (-1 : Int32)))) p1.toNatClampNeg (((upd fxj p0.toNatClampNeg ((fxj p0.toNatClampNeg) &&& (((1 : Int32) <<< (p1 &&& 31)) ^^^ (-1 : Int32)))) p1.toNatClampNeg) &&& (((1 : Int32) <<< (p0 &&& 31)) ^^^ (-1 : Int32))))))))) else (gin p0 6 (gin p0 6 (gin p1 6 (gin p1 6 (some (upd (upd fxj p0.toNatClampNeg ((fxj p0.toNatClampNeg) ||| ((1 : Int32) <<< (p1 &&& 31)))) p1.toNatClampNeg (((upd fxj p0.toNatClampNeg ((fxj p0.toNatClampNeg) ||| ((1 : Int32) <<< (p1 &&& 31)))) p1.toNatClampNeg) ||| ((1 : Int32) <<< (p0 &&& 31)))))))))
set_option maxHeartbeats 4000000 in
set_option maxRecDepth 100000 in
theorem c_X1_join (l : Launch) (dC : Nat → ClassId) (dI : Nat → Nat → Nat) (cy : ClassId) (ax axj : Nat) (sz : Nat) (fxj : Nat → Int32) (p0 : Int32) (p1 : Int32) (p2 : Int32) (res : (Nat → Int32)) (h : fX1_join fxj p0 p1 p2 = some res) : Met l yX1_join wsX1_join ({ frames := 0, cells := 0, slots := 0, locals := 0 }) (va_Pc [.ref ax, .int p0, .int p1, .int p2] (PW (dC, dI) cy sz [(ax, .inr (1, [.ref axj])), (axj, .inl (cy, 6, .inl fxj))])) (va_Qv (fun (_ : Unit) => True) (QW (dC, dI) cy (va_A [(ax, .inr (1, [.ref axj])), (axj, .inl (cy, 6, .inl fxj))] sz) [(ax, .inr (1, [.ref axj])), (axj, .inl (cy, 6, .inl res))]) (va_A [(ax, .inr (1, [.ref axj])), (axj, .inl (cy, 6, .inl fxj))] sz)) 0 0 (va_A [(ax, .inr (1, [.ref axj])), (axj, .inl (cy, 6, .inl fxj))] sz) := by
  refine Met.ofW (cc := cX1_join) (maxL := 4) (ret := none) (by decide) rfl ?_
  intro p e s m args below meth c s₁ B hml hv
  obtain ⟨rfl, hsz, hP, hK, hD0, hN⟩ := hv
  have hx := B.exec
  have hb := B.bytes
  have hr := B.returns
  have hts := atoms_spec (ws := wsX1_join) B.pre
  have hown : s.vm.findClass RX1 = some m.cls := findClass_of_methodNamed B.named
  have hlocks := B.notSynchronized
  subst hsz
  have hD := hD0.self (sz := s.heap.size)
  clear hD0
  generalize hAe : va_A [(ax, .inr (1, [.ref axj])), (axj, .inl (cy, 6, .inl fxj))] s.heap.size = A at hD ⊢
  have hA : ∀ q : Nat, s.heap.size ≤ q → A q := fun q h => by rw [← hAe]; exact Or.inr h
  have hS : va_S A s.heap s.heap [] := va_S.rf
  have hl := lv_entry ([.ref ax, .int p0, .int p1, .int p2]) (n := 4) (Nat.le_of_ble_eq_true rfl)
  rw [lg_entry_eq]
  generalize (lg_sl ([.ref ax, .int p0, .int p1, .int p2]) ++ List.replicate (4 - (lg_sl ([.ref ax, .int p0, .int p1, .int p2])).length) Slot.unset).toArray = ls at hl ⊢
  replace hl : lv_has ls 4 [(0, .ref ax), (1, .int p0), (2, .int p1), (3, .int p2)] := hl
  replace hP : va_P (dC, dI) vwCl [(ax, .inr (1, [.ref axj])), (axj, .inl (cy, 6, .inl fxj))] s.heap := hP
  obtain ⟨locs, hlocs⟩ : ∃ lc : List Loc, lc = [] := ⟨_, rfl⟩
  rw [← hlocs] at hS ⊢
  obtain ⟨H, hH⟩ : ∃ H : Heap, H = s.heap := ⟨_, rfl⟩
  have hP2 := hP; rw [← hH] at hP2
  have hS2 : va_S A s.heap H locs := by rw [hH]; exact hS
  suffices hgo : W p l e (headSpec wsX1_join ({ frames := 0, cells := 0, slots := 0, locals := 0 })).room s m (([.ref ax, .int p0, .int p1, .int p2] : List Value).toArray) below meth c H locs 0 0 (MQ below (va_Qv (fun (_ : Unit) => True) (QW (dC, dI) cy A [(ax, .inr (1, [.ref axj])), (axj, .inl (cy, 6, .inl res))]) A) (([.ref ax, .int p0, .int p1, .int p2] : List Value).toArray) s 0 0 A) (F0 m 0 ls []) by rw [hH] at hgo; exact hgo
  replace hP := hP2
  replace hS := hS2
  clear hP2 hS2
  have hin_X1 : ∀ w ∈ wsX10, w ∈ wsX1_join := by decide +kernel
  have hf_9 := hts (.fieldLink RX1 9 "FewLooks$Net" "joins" "[I") (by decide +kernel)
  unfold fX1_join at h
  refine lv_iload_n hx hb dX1_join_0 rfl (lv_at hl 3 rfl) ?_
  refine lv_if_eq (tgt := 31) hx hb dX1_join_1 (by decide) (fun c1 => ?_) (fun c1 => ?_)
  · rw [if_pos c1] at h
    refine lv_aload_n hx hb dX1_join_31 rfl (lv_at hl 0 rfl) ?_
    refine va_get (D := (dC, dI)) (ci := 1) (v := .ref axj) (C := RX1) (T := TX1) (N := 1) hx hb hts hin_X1 hown hK hP 0 rfl rfl 0 (by decide) (hf_9) (fun _ h9 => h9) rfl dX1_join_32 ?_
    refine lv_iload_n hx hb dX1_join_35 rfl (lv_at hl 1 rfl) ?_
    refine lv_dup2_11 hx hb dX1_join_36 rfl rfl ?_
    obtain ⟨hi, h⟩ := gin_some h
    refine va_iald hx hb hK hP 1 0 rfl rfl hi dX1_join_37 ?_
    refine lv_iconst (v := (1 : Int32)) hx hb dX1_join_38 (by decide) ?_
    refine lv_iload_n hx hb dX1_join_39 rfl (lv_at hl 2 rfl) ?_
    refine lv_ishl hx hb dX1_join_40 ?_
    refine lv_iconst (v := (-1 : Int32)) hx hb dX1_join_41 (by decide) ?_
    refine lv_ixor hx hb dX1_join_42 ?_
    refine lv_iand hx hb dX1_join_43 ?_
    obtain ⟨hi, h⟩ := gin_some h
    refine va_iast hx hb hK hP hD hS 1 0 rfl rfl hi dX1_join_44 (fun H locs hP hD hS => ?_)
    replace hP : va_P (dC, dI) vwCl [(ax, .inr (1, [.ref axj])), (axj, .inl (cy, 6, .inl (upd fxj p0.toNatClampNeg ((fxj p0.toNatClampNeg) &&& (((1 : Int32) <<< (p1 &&& 31)) ^^^ (-1 : Int32))))))] H := hP
    replace hD : va_D A [(ax, .inr (1, [.ref axj])), (axj, .inl (cy, 6, .inl (upd fxj p0.toNatClampNeg ((fxj p0.toNatClampNeg) &&& (((1 : Int32) <<< (p1 &&& 31)) ^^^ (-1 : Int32))))))] := hD
    refine lv_aload_n hx hb dX1_join_45 rfl (lv_at hl 0 rfl) ?_
    refine va_get (D := (dC, dI)) (ci := 1) (v := .ref axj) (C := RX1) (T := TX1) (N := 1) hx hb hts hin_X1 hown hK hP 0 rfl rfl 0 (by decide) (hf_9) (fun _ h9 => h9) rfl dX1_join_46 ?_
    refine lv_iload_n hx hb dX1_join_49 rfl (lv_at hl 2 rfl) ?_
    refine lv_dup2_11 hx hb dX1_join_50 rfl rfl ?_
    obtain ⟨hi, h⟩ := gin_some h
    refine va_iald hx hb hK hP 1 0 rfl rfl hi dX1_join_51 ?_
    refine lv_iconst (v := (1 : Int32)) hx hb dX1_join_52 (by decide) ?_
    refine lv_iload_n hx hb dX1_join_53 rfl (lv_at hl 1 rfl) ?_
    refine lv_ishl hx hb dX1_join_54 ?_
    refine lv_iconst (v := (-1 : Int32)) hx hb dX1_join_55 (by decide) ?_
    refine lv_ixor hx hb dX1_join_56 ?_
    refine lv_iand hx hb dX1_join_57 ?_
    obtain ⟨hi, h⟩ := gin_some h
    refine va_iast hx hb hK hP hD hS 1 0 rfl rfl hi dX1_join_58 (fun H locs hP hD hS => ?_)
    replace hP : va_P (dC, dI) vwCl [(ax, .inr (1, [.ref axj])), (axj, .inl (cy, 6, .inl (upd (upd fxj p0.toNatClampNeg ((fxj p0.toNatClampNeg) &&& (((1 : Int32) <<< (p1 &&& 31)) ^^^ (-1 : Int32)))) p1.toNatClampNeg (((upd fxj p0.toNatClampNeg ((fxj p0.toNatClampNeg) &&& (((1 : Int32) <<< (p1 &&& 31)) ^^^ (-1 : Int32)))) p1.toNatClampNeg) &&& (((1 : Int32) <<< (p0 &&& 31)) ^^^ (-1 : Int32))))))] H := hP
    replace hD : va_D A [(ax, .inr (1, [.ref axj])), (axj, .inl (cy, 6, .inl (upd (upd fxj p0.toNatClampNeg ((fxj p0.toNatClampNeg) &&& (((1 : Int32) <<< (p1 &&& 31)) ^^^ (-1 : Int32)))) p1.toNatClampNeg (((upd fxj p0.toNatClampNeg ((fxj p0.toNatClampNeg) &&& (((1 : Int32) <<< (p1 &&& 31)) ^^^ (-1 : Int32)))) p1.toNatClampNeg) &&& (((1 : Int32) <<< (p0 &&& 31)) ^^^ (-1 : Int32))))))] := hD
    have h0 := Option.some.inj h
    subst h0
    exact W.vret hx hb hr (fun t ht hW => ⟨⟨(), rfl, trivial, QW_mk hP hK hD ht hW⟩, hS.F ht⟩) hS.2.2 dX1_join_59
  · rw [if_neg c1] at h
    refine lv_aload_n hx hb dX1_join_4 rfl (lv_at hl 0 rfl) ?_
    refine va_get (D := (dC, dI)) (ci := 1) (v := .ref axj) (C := RX1) (T := TX1) (N := 1) hx hb hts hin_X1 hown hK hP 0 rfl rfl 0 (by decide) (hf_9) (fun _ h9 => h9) rfl dX1_join_5 ?_
    refine lv_iload_n hx hb dX1_join_8 rfl (lv_at hl 1 rfl) ?_
    refine lv_dup2_11 hx hb dX1_join_9 rfl rfl ?_
    obtain ⟨hi, h⟩ := gin_some h
    refine va_iald hx hb hK hP 1 0 rfl rfl hi dX1_join_10 ?_
    refine lv_iconst (v := (1 : Int32)) hx hb dX1_join_11 (by decide) ?_
    refine lv_iload_n hx hb dX1_join_12 rfl (lv_at hl 2 rfl) ?_
    refine lv_ishl hx hb dX1_join_13 ?_
    refine lv_ior hx hb dX1_join_14 ?_
    obtain ⟨hi, h⟩ := gin_some h
    refine va_iast hx hb hK hP hD hS 1 0 rfl rfl hi dX1_join_15 (fun H locs hP hD hS => ?_)
    replace hP : va_P (dC, dI) vwCl [(ax, .inr (1, [.ref axj])), (axj, .inl (cy, 6, .inl (upd fxj p0.toNatClampNeg ((fxj p0.toNatClampNeg) ||| ((1 : Int32) <<< (p1 &&& 31))))))] H := hP
    replace hD : va_D A [(ax, .inr (1, [.ref axj])), (axj, .inl (cy, 6, .inl (upd fxj p0.toNatClampNeg ((fxj p0.toNatClampNeg) ||| ((1 : Int32) <<< (p1 &&& 31))))))] := hD
    refine lv_aload_n hx hb dX1_join_16 rfl (lv_at hl 0 rfl) ?_
    refine va_get (D := (dC, dI)) (ci := 1) (v := .ref axj) (C := RX1) (T := TX1) (N := 1) hx hb hts hin_X1 hown hK hP 0 rfl rfl 0 (by decide) (hf_9) (fun _ h9 => h9) rfl dX1_join_17 ?_
    refine lv_iload_n hx hb dX1_join_20 rfl (lv_at hl 2 rfl) ?_
    refine lv_dup2_11 hx hb dX1_join_21 rfl rfl ?_
    obtain ⟨hi, h⟩ := gin_some h
    refine va_iald hx hb hK hP 1 0 rfl rfl hi dX1_join_22 ?_
    refine lv_iconst (v := (1 : Int32)) hx hb dX1_join_23 (by decide) ?_
    refine lv_iload_n hx hb dX1_join_24 rfl (lv_at hl 1 rfl) ?_
    refine lv_ishl hx hb dX1_join_25 ?_
    refine lv_ior hx hb dX1_join_26 ?_
    obtain ⟨hi, h⟩ := gin_some h
    refine va_iast hx hb hK hP hD hS 1 0 rfl rfl hi dX1_join_27 (fun H locs hP hD hS => ?_)
    replace hP : va_P (dC, dI) vwCl [(ax, .inr (1, [.ref axj])), (axj, .inl (cy, 6, .inl (upd (upd fxj p0.toNatClampNeg ((fxj p0.toNatClampNeg) ||| ((1 : Int32) <<< (p1 &&& 31)))) p1.toNatClampNeg (((upd fxj p0.toNatClampNeg ((fxj p0.toNatClampNeg) ||| ((1 : Int32) <<< (p1 &&& 31)))) p1.toNatClampNeg) ||| ((1 : Int32) <<< (p0 &&& 31))))))] H := hP
    replace hD : va_D A [(ax, .inr (1, [.ref axj])), (axj, .inl (cy, 6, .inl (upd (upd fxj p0.toNatClampNeg ((fxj p0.toNatClampNeg) ||| ((1 : Int32) <<< (p1 &&& 31)))) p1.toNatClampNeg (((upd fxj p0.toNatClampNeg ((fxj p0.toNatClampNeg) ||| ((1 : Int32) <<< (p1 &&& 31)))) p1.toNatClampNeg) ||| ((1 : Int32) <<< (p0 &&& 31))))))] := hD
    refine lv_goto (tgt := 59) hx hb dX1_join_28 (by decide) ?_
    have h0 := Option.some.inj h
    subst h0
    exact W.vret hx hb hr (fun t ht hW => ⟨⟨(), rfl, trivial, QW_mk hP hK hD ht hW⟩, hS.F ht⟩) hS.2.2 dX1_join_59

noncomputable def fX1_alikeTo  (p0 : Int32) (p1 : Int32) : Option (Int32) := if ((p1 >>> (p0 &&& 31)) &&& (1 : Int32)) = (1 : Int32) then (some p1) else (some (p1 ^^^ (-1 : Int32)))
set_option maxHeartbeats 4000000 in
set_option maxRecDepth 100000 in
theorem c_X1_alikeTo (l : Launch) (dC : Nat → ClassId) (dI : Nat → Nat → Nat) (cy : ClassId)  (sz : Nat)  (p0 : Int32) (p1 : Int32) (res : Int32) (h : fX1_alikeTo p0 p1 = some res) : Met l yX1_alikeTo wsX1_alikeTo ({ frames := 0, cells := 0, slots := 0, locals := 0 }) (va_Pc [.int p0, .int p1] (PW (dC, dI) cy sz [])) (va_Qi (fun (r : Int32) (_ : Unit) => r = res) (QW (dC, dI) cy (va_A [] sz) []) (va_A [] sz)) 0 0 (va_A [] sz) := by
  refine Met.ofW (cc := cX1_alikeTo) (maxL := 2) (ret := (some .int)) (by decide) rfl ?_
  intro p e s m args below meth c s₁ B hml hv
  obtain ⟨rfl, hsz, hP, hK, hD0, hN⟩ := hv
  have hx := B.exec
  have hb := B.bytes
  have hr := B.returns
  have hts := atoms_spec (ws := wsX1_alikeTo) B.pre
  have hown : s.vm.findClass RX1 = some m.cls := findClass_of_methodNamed B.named
  have hlocks := B.notSynchronized
  subst hsz
  have hD := hD0.self (sz := s.heap.size)
  clear hD0
  generalize hAe : va_A [] s.heap.size = A at hD ⊢
  have hA : ∀ q : Nat, s.heap.size ≤ q → A q := fun q h => by rw [← hAe]; exact Or.inr h
  have hS : va_S A s.heap s.heap [] := va_S.rf
  have hl := lv_entry ([.int p0, .int p1]) (n := 2) (Nat.le_of_ble_eq_true rfl)
  rw [lg_entry_eq]
  generalize (lg_sl ([.int p0, .int p1]) ++ List.replicate (2 - (lg_sl ([.int p0, .int p1])).length) Slot.unset).toArray = ls at hl ⊢
  replace hl : lv_has ls 2 [(0, .int p0), (1, .int p1)] := hl
  replace hP : va_P (dC, dI) vwCl [] s.heap := hP
  obtain ⟨locs, hlocs⟩ : ∃ lc : List Loc, lc = [] := ⟨_, rfl⟩
  rw [← hlocs] at hS ⊢
  obtain ⟨H, hH⟩ : ∃ H : Heap, H = s.heap := ⟨_, rfl⟩
  have hP2 := hP; rw [← hH] at hP2
  have hS2 : va_S A s.heap H locs := by rw [hH]; exact hS
  suffices hgo : W p l e (headSpec wsX1_alikeTo ({ frames := 0, cells := 0, slots := 0, locals := 0 })).room s m (([.int p0, .int p1] : List Value).toArray) below meth c H locs 0 0 (MQ below (va_Qi (fun (r : Int32) (_ : Unit) => r = res) (QW (dC, dI) cy A []) A) (([.int p0, .int p1] : List Value).toArray) s 0 0 A) (F0 m 0 ls []) by rw [hH] at hgo; exact hgo
  replace hP := hP2
  replace hS := hS2
  clear hP2 hS2
  unfold fX1_alikeTo at h
  refine lv_iload_n hx hb dX1_alikeTo_0 rfl (lv_at hl 1 rfl) ?_
  refine lv_iload_n hx hb dX1_alikeTo_1 rfl (lv_at hl 0 rfl) ?_
  refine lv_ishr hx hb dX1_alikeTo_2 ?_
  refine lv_iconst (v := (1 : Int32)) hx hb dX1_alikeTo_3 (by decide) ?_
  refine lv_iand hx hb dX1_alikeTo_4 ?_
  refine lv_iconst (v := (1 : Int32)) hx hb dX1_alikeTo_5 (by decide) ?_
  refine lv_icmp_ne (tgt := 13) hx hb dX1_alikeTo_6 (by decide) (fun c1 => ?_) (fun c1 => ?_)
  · rw [if_neg c1] at h
    refine lv_iload_n hx hb dX1_alikeTo_13 rfl (lv_at hl 1 rfl) ?_
    refine lv_iconst (v := (-1 : Int32)) hx hb dX1_alikeTo_14 (by decide) ?_
    refine lv_ixor hx hb dX1_alikeTo_15 ?_
    have h0 := Option.some.inj h
    subst h0
    exact W.iret hx hb hr (fun t ht hW => ⟨⟨_, (), rfl, rfl, QW_mk hP hK hD ht hW⟩, hS.F ht⟩) hS.2.2 dX1_alikeTo_16
  · rw [if_pos c1] at h
    refine lv_iload_n hx hb dX1_alikeTo_9 rfl (lv_at hl 1 rfl) ?_
    refine lv_goto (tgt := 16) hx hb dX1_alikeTo_10 (by decide) ?_
    have h0 := Option.some.inj h
    subst h0
    exact W.iret hx hb hr (fun t ht hW => ⟨⟨_, (), rfl, rfl, QW_mk hP hK hD ht hW⟩, hS.F ht⟩) hS.2.2 dX1_alikeTo_16

noncomputable def fX1_likeLines_L5 (n : Nat) (l1 : Int32) (l2 : Int32) (l3 : Int32) (l4 : Int32) (fxj : Nat → Int32) : Option (Int32 × Int32) := match n with
  | 0 => none
  | n + 1 => if (6 : Int32) ≤ l4 then (some (l3, l4)) else (if ((l1 >>> (l4 &&& 31)) &&& (1 : Int32)) = (1 : Int32) then (gin l4 6 (bd (fX1_alikeTo l4 l2) fun r1 => bd (fJ6_bitCount_0f7a4 (((fxj l4.toNatClampNeg) &&& l1) &&& r1)) fun r2 => fX1_likeLines_L5 n l1 l2 (l3 + r2) (l4 + (1 : Int32)) fxj)) else (fX1_likeLines_L5 n l1 l2 l3 (l4 + (1 : Int32)) fxj))
theorem fX1_likeLines_L5_0 (l1 : Int32) (l2 : Int32) (l3 : Int32) (l4 : Int32) (fxj : Nat → Int32) : fX1_likeLines_L5 0 l1 l2 l3 l4 fxj = none := rfl
theorem fX1_likeLines_L5_s (n : Nat) (l1 : Int32) (l2 : Int32) (l3 : Int32) (l4 : Int32) (fxj : Nat → Int32) : fX1_likeLines_L5 (n + 1) l1 l2 l3 l4 fxj = if (6 : Int32) ≤ l4 then (some (l3, l4)) else (if ((l1 >>> (l4 &&& 31)) &&& (1 : Int32)) = (1 : Int32) then (gin l4 6 (bd (fX1_alikeTo l4 l2) fun r1 => bd (fJ6_bitCount_0f7a4 (((fxj l4.toNatClampNeg) &&& l1) &&& r1)) fun r2 => fX1_likeLines_L5 n l1 l2 (l3 + r2) (l4 + (1 : Int32)) fxj)) else (fX1_likeLines_L5 n l1 l2 l3 (l4 + (1 : Int32)) fxj)) := rfl
noncomputable def fX1_likeLines (fxj : Nat → Int32) (p0 : Int32) (p1 : Int32) : Option (Int32) := bd (fX1_likeLines_L5 FU p0 p1 (0 : Int32) (0 : Int32) fxj) fun q6 => some (q6.1 / (2 : Int32))
set_option maxHeartbeats 4000000 in
set_option maxRecDepth 100000 in
theorem c_X1_likeLines (l : Launch) (dC : Nat → ClassId) (dI : Nat → Nat → Nat) (cy : ClassId) (ax axj : Nat) (sz : Nat) (fxj : Nat → Int32) (p0 : Int32) (p1 : Int32) (res : Int32) (h : fX1_likeLines fxj p0 p1 = some res) : Met l yX1_likeLines wsX1_likeLines ({ frames := 1, cells := 0, slots := 0, locals := 21 }) (va_Pc [.ref ax, .int p0, .int p1] (PW (dC, dI) cy sz [(ax, .inr (1, [.ref axj])), (axj, .inl (cy, 6, .inl fxj))])) (va_Qi (fun (r : Int32) (_ : Unit) => r = res) (QW (dC, dI) cy (va_A [(ax, .inr (1, [.ref axj])), (axj, .inl (cy, 6, .inl fxj))] sz) [(ax, .inr (1, [.ref axj])), (axj, .inl (cy, 6, .inl fxj))]) (va_A [(ax, .inr (1, [.ref axj])), (axj, .inl (cy, 6, .inl fxj))] sz)) 0 0 (va_A [(ax, .inr (1, [.ref axj])), (axj, .inl (cy, 6, .inl fxj))] sz) := by
  refine Met.ofW (cc := cX1_likeLines) (maxL := 5) (ret := (some .int)) (by decide) rfl ?_
  intro p e s m args below meth c s₁ B hml hv
  obtain ⟨rfl, hsz, hP, hK, hD0, hN⟩ := hv
  have hx := B.exec
  have hb := B.bytes
  have hr := B.returns
  have hts := atoms_spec (ws := wsX1_likeLines) B.pre
  have hown : s.vm.findClass RX1 = some m.cls := findClass_of_methodNamed B.named
  have hlocks := B.notSynchronized
  subst hsz
  have hD := hD0.self (sz := s.heap.size)
  clear hD0
  generalize hAe : va_A [(ax, .inr (1, [.ref axj])), (axj, .inl (cy, 6, .inl fxj))] s.heap.size = A at hD ⊢
  have hA : ∀ q : Nat, s.heap.size ≤ q → A q := fun q h => by rw [← hAe]; exact Or.inr h
  have hS : va_S A s.heap s.heap [] := va_S.rf
  have hl := lv_entry ([.ref ax, .int p0, .int p1]) (n := 5) (Nat.le_of_ble_eq_true rfl)
  rw [lg_entry_eq]
  generalize (lg_sl ([.ref ax, .int p0, .int p1]) ++ List.replicate (5 - (lg_sl ([.ref ax, .int p0, .int p1])).length) Slot.unset).toArray = ls at hl ⊢
  replace hl : lv_has ls 5 [(0, .ref ax), (1, .int p0), (2, .int p1)] := hl
  replace hP : va_P (dC, dI) vwCl [(ax, .inr (1, [.ref axj])), (axj, .inl (cy, 6, .inl fxj))] s.heap := hP
  obtain ⟨locs, hlocs⟩ : ∃ lc : List Loc, lc = [] := ⟨_, rfl⟩
  rw [← hlocs] at hS ⊢
  obtain ⟨H, hH⟩ : ∃ H : Heap, H = s.heap := ⟨_, rfl⟩
  have hP2 := hP; rw [← hH] at hP2
  have hS2 : va_S A s.heap H locs := by rw [hH]; exact hS
  suffices hgo : W p l e (headSpec wsX1_likeLines ({ frames := 1, cells := 0, slots := 0, locals := 21 })).room s m (([.ref ax, .int p0, .int p1] : List Value).toArray) below meth c H locs 0 0 (MQ below (va_Qi (fun (r : Int32) (_ : Unit) => r = res) (QW (dC, dI) cy A [(ax, .inr (1, [.ref axj])), (axj, .inl (cy, 6, .inl fxj))]) A) (([.ref ax, .int p0, .int p1] : List Value).toArray) s 0 0 A) (F0 m 0 ls []) by rw [hH] at hgo; exact hgo
  replace hP := hP2
  replace hS := hS2
  clear hP2 hS2
  have hin_X1 : ∀ w ∈ wsX10, w ∈ wsX1_likeLines := by decide +kernel
  have hf_9 := hts (.fieldLink RX1 9 "FewLooks$Net" "joins" "[I") (by decide +kernel)
  unfold fX1_likeLines at h
  refine lv_iconst (v := (0 : Int32)) hx hb dX1_likeLines_0 (by decide) ?_
  refine lv_istore_n (lv' := [(3, .int (0 : Int32)), (0, .ref ax), (1, .int p0), (2, .int p1)]) hx hb dX1_likeLines_1 rfl hl (by decide) rfl (fun ls hl => ?_)
  refine lv_iconst (v := (0 : Int32)) hx hb dX1_likeLines_2 (by decide) ?_
  refine lv_istore (lv' := [(4, .int (0 : Int32)), (3, .int (0 : Int32)), (0, .ref ax), (1, .int p0), (2, .int p1)]) hx hb dX1_likeLines_3 hl (by decide) rfl (fun ls hl => ?_)
  have L5_4 : ∀ (n : Nat) (l1 : Int32) (l2 : Int32) (l3 : Int32) (l4 : Int32) (rs : (Int32 × Int32)) (H : Heap) (locs : List Loc) (ls : Array Slot), fX1_likeLines_L5 n l1 l2 l3 l4 fxj = some rs → lv_has ls 5 [(0, .ref ax), (1, .int l1), (2, .int l2), (3, .int l3), (4, .int l4)] → va_P (dC, dI) vwCl [(ax, .inr (1, [.ref axj])), (axj, .inl (cy, 6, .inl fxj))] H → va_D A [(ax, .inr (1, [.ref axj])), (axj, .inl (cy, 6, .inl fxj))] → va_S A s.heap H locs → (∀ (H : Heap) (locs : List Loc) (ls : Array Slot), lv_has ls 5 [(0, .ref ax), (1, .int l1), (2, .int l2), (3, .int rs.1), (4, .int rs.2)] → va_P (dC, dI) vwCl [(ax, .inr (1, [.ref axj])), (axj, .inl (cy, 6, .inl fxj))] H → va_D A [(ax, .inr (1, [.ref axj])), (axj, .inl (cy, 6, .inl fxj))] → va_S A s.heap H locs → W p l e (headSpec wsX1_likeLines ({ frames := 1, cells := 0, slots := 0, locals := 21 })).room s m (([.ref ax, .int p0, .int p1] : List Value).toArray) below meth c H locs 0 0 (MQ below (va_Qi (fun (r : Int32) (_ : Unit) => r = res) (QW (dC, dI) cy A [(ax, .inr (1, [.ref axj])), (axj, .inl (cy, 6, .inl fxj))]) A) (([.ref ax, .int p0, .int p1] : List Value).toArray) s 0 0 A) (F0 m 50 ls [])) → W p l e (headSpec wsX1_likeLines ({ frames := 1, cells := 0, slots := 0, locals := 21 })).room s m (([.ref ax, .int p0, .int p1] : List Value).toArray) below meth c H locs 0 0 (MQ below (va_Qi (fun (r : Int32) (_ : Unit) => r = res) (QW (dC, dI) cy A [(ax, .inr (1, [.ref axj])), (axj, .inl (cy, 6, .inl fxj))]) A) (([.ref ax, .int p0, .int p1] : List Value).toArray) s 0 0 A) (F0 m 5 ls []) := by
    intro n
    induction n with
    | zero =>
      intro l1 l2 l3 l4 rs H locs ls h
      rw [fX1_likeLines_L5_0] at h
      cases h
    | succ n ih =>
      intro l1 l2 l3 l4 rs H locs ls h hl hP hD hS K
      rw [fX1_likeLines_L5_s] at h
      refine lv_iload hx hb dX1_likeLines_5 (lv_at hl 4 rfl) ?_
      refine lv_bipush (v := (6 : Int32)) hx hb dX1_likeLines_7 (by decide) ?_
      refine lv_icmp_ge (tgt := 50) hx hb dX1_likeLines_9 (by decide) (fun c4 => ?_) (fun c4 => ?_)
      · rw [if_pos c4] at h
        have h0 := Option.some.inj h
        subst h0
        exact K H locs ls (lv_sub hl [0, 1, 2, 3, 4] rfl) hP hD hS
      · rw [if_neg c4] at h
        refine lv_iload_n hx hb dX1_likeLines_12 rfl (lv_at hl 1 rfl) ?_
        refine lv_iload hx hb dX1_likeLines_13 (lv_at hl 4 rfl) ?_
        refine lv_ishr hx hb dX1_likeLines_15 ?_
        refine lv_iconst (v := (1 : Int32)) hx hb dX1_likeLines_16 (by decide) ?_
        refine lv_iand hx hb dX1_likeLines_17 ?_
        refine lv_iconst (v := (1 : Int32)) hx hb dX1_likeLines_18 (by decide) ?_
        refine lv_icmp_ne (tgt := 44) hx hb dX1_likeLines_19 (by decide) (fun c3 => ?_) (fun c3 => ?_)
        · rw [if_neg c3] at h
          refine lv_iinc (v := l4 + (1 : Int32)) (lv' := [(4, .int (l4 + (1 : Int32))), (0, .ref ax), (1, .int l1), (2, .int l2), (3, .int l3)]) hx hb dX1_likeLines_44 hl (k := 4) rfl rfl (by decide) rfl (fun ls hl => ?_)
          refine lv_goto (tgt := 5) hx hb dX1_likeLines_47 (by decide) ?_
          exact ih l1 l2 l3 (l4 + (1 : Int32)) rs H locs ls h (lv_sub hl [1, 2, 3, 4, 0] rfl) hP hD hS K
        · rw [if_pos c3] at h
          refine lv_iload_n hx hb dX1_likeLines_22 rfl (lv_at hl 3 rfl) ?_
          refine lv_aload_n hx hb dX1_likeLines_23 rfl (lv_at hl 0 rfl) ?_
          refine va_get (D := (dC, dI)) (ci := 1) (v := .ref axj) (C := RX1) (T := TX1) (N := 1) hx hb hts hin_X1 hown hK hP 0 rfl rfl 0 (by decide) (hf_9) (fun _ h9 => h9) rfl dX1_likeLines_24 ?_
          refine lv_iload hx hb dX1_likeLines_27 (lv_at hl 4 rfl) ?_
          obtain ⟨hi, h⟩ := gin_some h
          refine va_iald hx hb hK hP 1 0 rfl rfl hi dX1_likeLines_29 ?_
          refine lv_iload_n hx hb dX1_likeLines_30 rfl (lv_at hl 1 rfl) ?_
          refine lv_iand hx hb dX1_likeLines_31 ?_
          refine lv_iload hx hb dX1_likeLines_32 (lv_at hl 4 rfl) ?_
          refine lv_iload_n hx hb dX1_likeLines_34 rfl (lv_at hl 2 rfl) ?_
          obtain ⟨r1, hr1, h⟩ := bd_some h
          have hFc := va_free (wc := []) hD hS hA [] rfl
          refine va_calli (va_runS (As := [.int l4, .int l2]) (rest := [.int ((fxj l4.toNatClampNeg) &&& l1), .int l3]) ⟨hx, hb, hml, hown, hts⟩ (c_X1_alikeTo l dC dI cy  H.size  l4 l2 r1 hr1) (va_cwS 2 hts gX1_likeLines_X1_alikeTo rfl rfl rfl (by decide +kernel) ⟨Nat.le_of_ble_eq_true rfl, Nat.le_of_ble_eq_true rfl⟩) ⟨PW_fb, PW_pre (hP.sub (ws' := []) [] rfl) hK (hD.sub [] (by decide) rfl) hN⟩ rfl rfl hl.1 rfl (lv_room (Nat.le_of_ble_eq_true rfl)) dX1_likeLines_35 ⟨Nat.zero_le _, Nat.zero_le _⟩) hS (fun q _ h => hFc q h) hFc (fun rz u t H locs ht hvm hw hB hz1 hk1 hS => ?_)
          obtain ⟨hP, hD⟩ := jn (wr := [(ax, .inr (1, [.ref axj])), (axj, .inl (cy, 6, .inl fxj))]) (w1 := []) (ws' := [(ax, .inr (1, [.ref axj])), (axj, .inl (cy, 6, .inl fxj))]) hP hD [] [0, 1] rfl rfl (by decide) (by decide) hk1 hFc hB ht [0, 1] rfl (by decide) rfl
          replace hw := hw.symm
          subst hw
          clear hFc hB hk1 hz1 hvm
          refine lv_iand hx hb dX1_likeLines_38 ?_
          obtain ⟨r2, hr2, h⟩ := bd_some h
          have hFc := va_free (wc := []) hD hS hA [] rfl
          refine va_calli (va_runS (As := [.int (((fxj l4.toNatClampNeg) &&& l1) &&& r1)]) (rest := [.int l3]) ⟨hx, hb, hml, hown, hts⟩ (c_J6_bitCount_0f7a4 l dC dI cy  H.size  (((fxj l4.toNatClampNeg) &&& l1) &&& r1) r2 hr2) (va_cwS 1 hts gX1_likeLines_J6_bitCount_0f7a4 rfl rfl rfl (by decide +kernel) ⟨Nat.le_of_ble_eq_true rfl, Nat.le_of_ble_eq_true rfl⟩) ⟨PW_fb, PW_pre (hP.sub (ws' := []) [] rfl) hK (hD.sub [] (by decide) rfl) hN⟩ rfl rfl hl.1 rfl (lv_room (Nat.le_of_ble_eq_true rfl)) dX1_likeLines_39 ⟨Nat.zero_le _, Nat.zero_le _⟩) hS (fun q _ h => hFc q h) hFc (fun rz u t H locs ht hvm hw hB hz1 hk1 hS => ?_)
          obtain ⟨hP, hD⟩ := jn (wr := [(ax, .inr (1, [.ref axj])), (axj, .inl (cy, 6, .inl fxj))]) (w1 := []) (ws' := [(ax, .inr (1, [.ref axj])), (axj, .inl (cy, 6, .inl fxj))]) hP hD [] [0, 1] rfl rfl (by decide) (by decide) hk1 hFc hB ht [0, 1] rfl (by decide) rfl
          replace hw := hw.symm
          subst hw
          clear hFc hB hk1 hz1 hvm
          refine lv_iadd hx hb dX1_likeLines_42 ?_
          refine lv_istore_n (lv' := [(3, .int (l3 + r2)), (0, .ref ax), (1, .int l1), (2, .int l2), (4, .int l4)]) hx hb dX1_likeLines_43 rfl hl (by decide) rfl (fun ls hl => ?_)
          refine lv_iinc (v := l4 + (1 : Int32)) (lv' := [(4, .int (l4 + (1 : Int32))), (3, .int (l3 + r2)), (0, .ref ax), (1, .int l1), (2, .int l2)]) hx hb dX1_likeLines_44 hl (k := 4) rfl rfl (by decide) rfl (fun ls hl => ?_)
          refine lv_goto (tgt := 5) hx hb dX1_likeLines_47 (by decide) ?_
          exact ih l1 l2 (l3 + r2) (l4 + (1 : Int32)) rs H locs ls h (lv_sub hl [2, 3, 4, 1, 0] rfl) hP hD hS K
  obtain ⟨q6, hq6, h⟩ := bd_some h
  refine L5_4 FU p0 p1 (0 : Int32) (0 : Int32) q6 H locs ls hq6 (lv_sub hl [2, 3, 4, 1, 0] rfl) hP hD hS (fun H locs ls hl hP hD hS => ?_)
  refine lv_iload_n hx hb dX1_likeLines_50 rfl (lv_at hl 3 rfl) ?_
  refine lv_iconst (v := (2 : Int32)) hx hb dX1_likeLines_51 (by decide) ?_
  refine lv_idiv hx hb dX1_likeLines_52 (by decide) ?_
  have h0 := Option.some.inj h
  subst h0
  exact W.iret hx hb hr (fun t ht hW => ⟨⟨_, (), rfl, rfl, QW_mk hP hK hD ht hW⟩, hS.F ht⟩) hS.2.2 dX1_likeLines_53

noncomputable def fX1_lines (fxj : Nat → Int32)  : Option (Int32) := bd (fX1_likeLines fxj (63 : Int32) (0 : Int32)) fun r1 => some r1
set_option maxHeartbeats 4000000 in
set_option maxRecDepth 100000 in
theorem c_X1_lines (l : Launch) (dC : Nat → ClassId) (dI : Nat → Nat → Nat) (cy : ClassId) (ax axj : Nat) (sz : Nat) (fxj : Nat → Int32)  (res : Int32) (h : fX1_lines fxj = some res) : Met l yX1_lines wsX1_lines ({ frames := 2, cells := 0, slots := 0, locals := 45 }) (va_Pc [.ref ax] (PW (dC, dI) cy sz [(ax, .inr (1, [.ref axj])), (axj, .inl (cy, 6, .inl fxj))])) (va_Qi (fun (r : Int32) (_ : Unit) => r = res) (QW (dC, dI) cy (va_A [(ax, .inr (1, [.ref axj])), (axj, .inl (cy, 6, .inl fxj))] sz) [(ax, .inr (1, [.ref axj])), (axj, .inl (cy, 6, .inl fxj))]) (va_A [(ax, .inr (1, [.ref axj])), (axj, .inl (cy, 6, .inl fxj))] sz)) 0 0 (va_A [(ax, .inr (1, [.ref axj])), (axj, .inl (cy, 6, .inl fxj))] sz) := by
  refine Met.ofW (cc := cX1_lines) (maxL := 1) (ret := (some .int)) (by decide) rfl ?_
  intro p e s m args below meth c s₁ B hml hv
  obtain ⟨rfl, hsz, hP, hK, hD0, hN⟩ := hv
  have hx := B.exec
  have hb := B.bytes
  have hr := B.returns
  have hts := atoms_spec (ws := wsX1_lines) B.pre
  have hown : s.vm.findClass RX1 = some m.cls := findClass_of_methodNamed B.named
  have hlocks := B.notSynchronized
  subst hsz
  have hD := hD0.self (sz := s.heap.size)
  clear hD0
  generalize hAe : va_A [(ax, .inr (1, [.ref axj])), (axj, .inl (cy, 6, .inl fxj))] s.heap.size = A at hD ⊢
  have hA : ∀ q : Nat, s.heap.size ≤ q → A q := fun q h => by rw [← hAe]; exact Or.inr h
  have hS : va_S A s.heap s.heap [] := va_S.rf
  have hl := lv_entry ([.ref ax]) (n := 1) (Nat.le_of_ble_eq_true rfl)
  rw [lg_entry_eq]
  generalize (lg_sl ([.ref ax]) ++ List.replicate (1 - (lg_sl ([.ref ax])).length) Slot.unset).toArray = ls at hl ⊢
  replace hl : lv_has ls 1 [(0, .ref ax)] := hl
  replace hP : va_P (dC, dI) vwCl [(ax, .inr (1, [.ref axj])), (axj, .inl (cy, 6, .inl fxj))] s.heap := hP
  obtain ⟨locs, hlocs⟩ : ∃ lc : List Loc, lc = [] := ⟨_, rfl⟩
  rw [← hlocs] at hS ⊢
  obtain ⟨H, hH⟩ : ∃ H : Heap, H = s.heap := ⟨_, rfl⟩
  have hP2 := hP; rw [← hH] at hP2
  have hS2 : va_S A s.heap H locs := by rw [hH]; exact hS
  suffices hgo : W p l e (headSpec wsX1_lines ({ frames := 2, cells := 0, slots := 0, locals := 45 })).room s m (([.ref ax] : List Value).toArray) below meth c H locs 0 0 (MQ below (va_Qi (fun (r : Int32) (_ : Unit) => r = res) (QW (dC, dI) cy A [(ax, .inr (1, [.ref axj])), (axj, .inl (cy, 6, .inl fxj))]) A) (([.ref ax] : List Value).toArray) s 0 0 A) (F0 m 0 ls []) by rw [hH] at hgo; exact hgo
  replace hP := hP2
  replace hS := hS2
  clear hP2 hS2
  unfold fX1_lines at h
  refine lv_aload_n hx hb dX1_lines_0 rfl (lv_at hl 0 rfl) ?_
  refine lv_bipush (v := (63 : Int32)) hx hb dX1_lines_1 (by decide) ?_
  refine lv_iconst (v := (0 : Int32)) hx hb dX1_lines_3 (by decide) ?_
  obtain ⟨r1, hr1, h⟩ := bd_some h
  have hFc := va_free (wc := [(ax, .inr (1, [.ref axj])), (axj, .inl (cy, 6, .inl fxj))]) hD hS hA [0, 1] rfl
  refine va_calli (va_runV (As := [.int (63 : Int32), .int (0 : Int32)]) (rest := []) ⟨hx, hb, hml, hown, hts⟩ (c_X1_likeLines l dC dI cy ax axj H.size fxj (63 : Int32) (0 : Int32) r1 hr1) (cwV 2 hts gX1_lines_X1_likeLines rfl rfl rfl (by decide +kernel) ⟨Nat.le_of_ble_eq_true rfl, Nat.le_of_ble_eq_true rfl⟩) ⟨PW_fb, va_recv hK hP (ci := 1) (q0 := 0) rfl rfl, PW_pre (hP.sub (ws' := [(ax, .inr (1, [.ref axj])), (axj, .inl (cy, 6, .inl fxj))]) [0, 1] rfl) hK (hD.sub [0, 1] (by decide) rfl) hN⟩ rfl rfl hl.1 rfl (lv_room (Nat.le_of_ble_eq_true rfl)) dX1_lines_4 ⟨Nat.zero_le _, Nat.zero_le _⟩) hS (fun q _ h => hFc q h) hFc (fun rz u t H locs ht hvm hw hB hz1 hk1 hS => ?_)
  obtain ⟨hP, hD⟩ := jn (wr := []) (w1 := [(ax, .inr (1, [.ref axj])), (axj, .inl (cy, 6, .inl fxj))]) (ws' := [(ax, .inr (1, [.ref axj])), (axj, .inl (cy, 6, .inl fxj))]) hP hD [0, 1] [] rfl rfl (by decide) (by decide) hk1 hFc hB ht [0, 1] rfl (by decide) rfl
  replace hw := hw.symm
  subst hw
  clear hFc hB hk1 hz1 hvm
  have h0 := Option.some.inj h
  subst h0
  exact W.iret hx hb hr (fun t ht hW => ⟨⟨_, (), rfl, rfl, QW_mk hP hK hD ht hW⟩, hS.F ht⟩) hS.2.2 dX1_lines_7

noncomputable def fX1_cutLikeLines_L2 (n : Nat) (l1 : Int32) (l2 : Int32) (fxj : Nat → Int32) : Option (Int32 × (Nat → Int32)) := match n with
  | 0 => none
  | n + 1 => if (6 : Int32) ≤ l2 then (some (l2, fxj)) else (gin l2 6 (bd (fX1_alikeTo l2 l1) fun r1 => gin l2 6 (fX1_cutLikeLines_L2 n l1 (l2 + (1 : Int32)) (upd fxj l2.toNatClampNeg ((fxj l2.toNatClampNeg) &&& (r1 ^^^ (-1 : Int32)))))))
theorem fX1_cutLikeLines_L2_0 (l1 : Int32) (l2 : Int32) (fxj : Nat → Int32) : fX1_cutLikeLines_L2 0 l1 l2 fxj = none := rfl
theorem fX1_cutLikeLines_L2_s (n : Nat) (l1 : Int32) (l2 : Int32) (fxj : Nat → Int32) : fX1_cutLikeLines_L2 (n + 1) l1 l2 fxj = if (6 : Int32) ≤ l2 then (some (l2, fxj)) else (gin l2 6 (bd (fX1_alikeTo l2 l1) fun r1 => gin l2 6 (fX1_cutLikeLines_L2 n l1 (l2 + (1 : Int32)) (upd fxj l2.toNatClampNeg ((fxj l2.toNatClampNeg) &&& (r1 ^^^ (-1 : Int32))))))) := rfl
noncomputable def fX1_cutLikeLines (fxj : Nat → Int32) (p0 : Int32) : Option ((Nat → Int32)) := bd (fX1_cutLikeLines_L2 FU p0 (0 : Int32) fxj) fun q4 => some q4.2
set_option maxHeartbeats 4000000 in
set_option maxRecDepth 100000 in
theorem c_X1_cutLikeLines (l : Launch) (dC : Nat → ClassId) (dI : Nat → Nat → Nat) (cy : ClassId) (ax axj : Nat) (sz : Nat) (fxj : Nat → Int32) (p0 : Int32) (res : (Nat → Int32)) (h : fX1_cutLikeLines fxj p0 = some res) : Met l yX1_cutLikeLines wsX1_cutLikeLines ({ frames := 1, cells := 0, slots := 0, locals := 21 }) (va_Pc [.ref ax, .int p0] (PW (dC, dI) cy sz [(ax, .inr (1, [.ref axj])), (axj, .inl (cy, 6, .inl fxj))])) (va_Qv (fun (_ : Unit) => True) (QW (dC, dI) cy (va_A [(ax, .inr (1, [.ref axj])), (axj, .inl (cy, 6, .inl fxj))] sz) [(ax, .inr (1, [.ref axj])), (axj, .inl (cy, 6, .inl res))]) (va_A [(ax, .inr (1, [.ref axj])), (axj, .inl (cy, 6, .inl fxj))] sz)) 0 0 (va_A [(ax, .inr (1, [.ref axj])), (axj, .inl (cy, 6, .inl fxj))] sz) := by
  refine Met.ofW (cc := cX1_cutLikeLines) (maxL := 3) (ret := none) (by decide) rfl ?_
  intro p e s m args below meth c s₁ B hml hv
  obtain ⟨rfl, hsz, hP, hK, hD0, hN⟩ := hv
  have hx := B.exec
  have hb := B.bytes
  have hr := B.returns
  have hts := atoms_spec (ws := wsX1_cutLikeLines) B.pre
  have hown : s.vm.findClass RX1 = some m.cls := findClass_of_methodNamed B.named
  have hlocks := B.notSynchronized
  subst hsz
  have hD := hD0.self (sz := s.heap.size)
  clear hD0
  generalize hAe : va_A [(ax, .inr (1, [.ref axj])), (axj, .inl (cy, 6, .inl fxj))] s.heap.size = A at hD ⊢
  have hA : ∀ q : Nat, s.heap.size ≤ q → A q := fun q h => by rw [← hAe]; exact Or.inr h
  have hS : va_S A s.heap s.heap [] := va_S.rf
  have hl := lv_entry ([.ref ax, .int p0]) (n := 3) (Nat.le_of_ble_eq_true rfl)
  rw [lg_entry_eq]
  generalize (lg_sl ([.ref ax, .int p0]) ++ List.replicate (3 - (lg_sl ([.ref ax, .int p0])).length) Slot.unset).toArray = ls at hl ⊢
  replace hl : lv_has ls 3 [(0, .ref ax), (1, .int p0)] := hl
  replace hP : va_P (dC, dI) vwCl [(ax, .inr (1, [.ref axj])), (axj, .inl (cy, 6, .inl fxj))] s.heap := hP
  obtain ⟨locs, hlocs⟩ : ∃ lc : List Loc, lc = [] := ⟨_, rfl⟩
  rw [← hlocs] at hS ⊢
  obtain ⟨H, hH⟩ : ∃ H : Heap, H = s.heap := ⟨_, rfl⟩
  have hP2 := hP; rw [← hH] at hP2
  have hS2 : va_S A s.heap H locs := by rw [hH]; exact hS
  suffices hgo : W p l e (headSpec wsX1_cutLikeLines ({ frames := 1, cells := 0, slots := 0, locals := 21 })).room s m (([.ref ax, .int p0] : List Value).toArray) below meth c H locs 0 0 (MQ below (va_Qv (fun (_ : Unit) => True) (QW (dC, dI) cy A [(ax, .inr (1, [.ref axj])), (axj, .inl (cy, 6, .inl res))]) A) (([.ref ax, .int p0] : List Value).toArray) s 0 0 A) (F0 m 0 ls []) by rw [hH] at hgo; exact hgo
  replace hP := hP2
  replace hS := hS2
  clear hP2 hS2
  have hin_X1 : ∀ w ∈ wsX10, w ∈ wsX1_cutLikeLines := by decide +kernel
  have hf_9 := hts (.fieldLink RX1 9 "FewLooks$Net" "joins" "[I") (by decide +kernel)
  unfold fX1_cutLikeLines at h
  refine lv_iconst (v := (0 : Int32)) hx hb dX1_cutLikeLines_0 (by decide) ?_
  refine lv_istore_n (lv' := [(2, .int (0 : Int32)), (0, .ref ax), (1, .int p0)]) hx hb dX1_cutLikeLines_1 rfl hl (by decide) rfl (fun ls hl => ?_)
  have L2_2 : ∀ (n : Nat) (l1 : Int32) (l2 : Int32) (fxj : Nat → Int32) (rs : (Int32 × (Nat → Int32))) (H : Heap) (locs : List Loc) (ls : Array Slot), fX1_cutLikeLines_L2 n l1 l2 fxj = some rs → lv_has ls 3 [(0, .ref ax), (1, .int l1), (2, .int l2)] → va_P (dC, dI) vwCl [(ax, .inr (1, [.ref axj])), (axj, .inl (cy, 6, .inl fxj))] H → va_D A [(ax, .inr (1, [.ref axj])), (axj, .inl (cy, 6, .inl fxj))] → va_S A s.heap H locs → (∀ (H : Heap) (locs : List Loc) (ls : Array Slot), lv_has ls 3 [(0, .ref ax), (1, .int l1), (2, .int rs.1)] → va_P (dC, dI) vwCl [(ax, .inr (1, [.ref axj])), (axj, .inl (cy, 6, .inl rs.2))] H → va_D A [(ax, .inr (1, [.ref axj])), (axj, .inl (cy, 6, .inl rs.2))] → va_S A s.heap H locs → W p l e (headSpec wsX1_cutLikeLines ({ frames := 1, cells := 0, slots := 0, locals := 21 })).room s m (([.ref ax, .int p0] : List Value).toArray) below meth c H locs 0 0 (MQ below (va_Qv (fun (_ : Unit) => True) (QW (dC, dI) cy A [(ax, .inr (1, [.ref axj])), (axj, .inl (cy, 6, .inl res))]) A) (([.ref ax, .int p0] : List Value).toArray) s 0 0 A) (F0 m 30 ls [])) → W p l e (headSpec wsX1_cutLikeLines ({ frames := 1, cells := 0, slots := 0, locals := 21 })).room s m (([.ref ax, .int p0] : List Value).toArray) below meth c H locs 0 0 (MQ below (va_Qv (fun (_ : Unit) => True) (QW (dC, dI) cy A [(ax, .inr (1, [.ref axj])), (axj, .inl (cy, 6, .inl res))]) A) (([.ref ax, .int p0] : List Value).toArray) s 0 0 A) (F0 m 2 ls []) := by
    intro n
    induction n with
    | zero =>
      intro l1 l2 fxj rs H locs ls h
      rw [fX1_cutLikeLines_L2_0] at h
      cases h
    | succ n ih =>
      intro l1 l2 fxj rs H locs ls h hl hP hD hS K
      rw [fX1_cutLikeLines_L2_s] at h
      refine lv_iload_n hx hb dX1_cutLikeLines_2 rfl (lv_at hl 2 rfl) ?_
      refine lv_bipush (v := (6 : Int32)) hx hb dX1_cutLikeLines_3 (by decide) ?_
      refine lv_icmp_ge (tgt := 30) hx hb dX1_cutLikeLines_5 (by decide) (fun c2 => ?_) (fun c2 => ?_)
      · rw [if_pos c2] at h
        have h0 := Option.some.inj h
        subst h0
        exact K H locs ls (lv_sub hl [0, 1, 2] rfl) hP hD hS
      · rw [if_neg c2] at h
        refine lv_aload_n hx hb dX1_cutLikeLines_8 rfl (lv_at hl 0 rfl) ?_
        refine va_get (D := (dC, dI)) (ci := 1) (v := .ref axj) (C := RX1) (T := TX1) (N := 1) hx hb hts hin_X1 hown hK hP 0 rfl rfl 0 (by decide) (hf_9) (fun _ h9 => h9) rfl dX1_cutLikeLines_9 ?_
        refine lv_iload_n hx hb dX1_cutLikeLines_12 rfl (lv_at hl 2 rfl) ?_
        refine lv_dup2_11 hx hb dX1_cutLikeLines_13 rfl rfl ?_
        obtain ⟨hi, h⟩ := gin_some h
        refine va_iald hx hb hK hP 1 0 rfl rfl hi dX1_cutLikeLines_14 ?_
        refine lv_iload_n hx hb dX1_cutLikeLines_15 rfl (lv_at hl 2 rfl) ?_
        refine lv_iload_n hx hb dX1_cutLikeLines_16 rfl (lv_at hl 1 rfl) ?_
        obtain ⟨r1, hr1, h⟩ := bd_some h
        have hFc := va_free (wc := []) hD hS hA [] rfl
        refine va_calli (va_runS (As := [.int l2, .int l1]) (rest := [.int (fxj l2.toNatClampNeg), .int l2, .ref axj]) ⟨hx, hb, hml, hown, hts⟩ (c_X1_alikeTo l dC dI cy  H.size  l2 l1 r1 hr1) (va_cwS 2 hts gX1_cutLikeLines_X1_alikeTo rfl rfl rfl (by decide +kernel) ⟨Nat.le_of_ble_eq_true rfl, Nat.le_of_ble_eq_true rfl⟩) ⟨PW_fb, PW_pre (hP.sub (ws' := []) [] rfl) hK (hD.sub [] (by decide) rfl) hN⟩ rfl rfl hl.1 rfl (lv_room (Nat.le_of_ble_eq_true rfl)) dX1_cutLikeLines_17 ⟨Nat.zero_le _, Nat.zero_le _⟩) hS (fun q _ h => hFc q h) hFc (fun rz u t H locs ht hvm hw hB hz1 hk1 hS => ?_)
        obtain ⟨hP, hD⟩ := jn (wr := [(ax, .inr (1, [.ref axj])), (axj, .inl (cy, 6, .inl fxj))]) (w1 := []) (ws' := [(ax, .inr (1, [.ref axj])), (axj, .inl (cy, 6, .inl fxj))]) hP hD [] [0, 1] rfl rfl (by decide) (by decide) hk1 hFc hB ht [0, 1] rfl (by decide) rfl
        replace hw := hw.symm
        subst hw
        clear hFc hB hk1 hz1 hvm
        refine lv_iconst (v := (-1 : Int32)) hx hb dX1_cutLikeLines_20 (by decide) ?_
        refine lv_ixor hx hb dX1_cutLikeLines_21 ?_
        refine lv_iand hx hb dX1_cutLikeLines_22 ?_
        obtain ⟨hi, h⟩ := gin_some h
        refine va_iast hx hb hK hP hD hS 1 0 rfl rfl hi dX1_cutLikeLines_23 (fun H locs hP hD hS => ?_)
        replace hP : va_P (dC, dI) vwCl [(ax, .inr (1, [.ref axj])), (axj, .inl (cy, 6, .inl (upd fxj l2.toNatClampNeg ((fxj l2.toNatClampNeg) &&& (r1 ^^^ (-1 : Int32))))))] H := hP
        replace hD : va_D A [(ax, .inr (1, [.ref axj])), (axj, .inl (cy, 6, .inl (upd fxj l2.toNatClampNeg ((fxj l2.toNatClampNeg) &&& (r1 ^^^ (-1 : Int32))))))] := hD
        refine lv_iinc (v := l2 + (1 : Int32)) (lv' := [(2, .int (l2 + (1 : Int32))), (0, .ref ax), (1, .int l1)]) hx hb dX1_cutLikeLines_24 hl (k := 2) rfl rfl (by decide) rfl (fun ls hl => ?_)
        refine lv_goto (tgt := 2) hx hb dX1_cutLikeLines_27 (by decide) ?_
        exact ih l1 (l2 + (1 : Int32)) (upd fxj l2.toNatClampNeg ((fxj l2.toNatClampNeg) &&& (r1 ^^^ (-1 : Int32)))) rs H locs ls h (lv_sub hl [1, 2, 0] rfl) hP hD hS K
  obtain ⟨q4, hq4, h⟩ := bd_some h
  refine L2_2 FU p0 (0 : Int32) fxj q4 H locs ls hq4 (lv_sub hl [1, 2, 0] rfl) hP hD hS (fun H locs ls hl hP hD hS => ?_)
  have h0 := Option.some.inj h
  subst h0
  exact W.vret hx hb hr (fun t ht hW => ⟨⟨(), rfl, trivial, QW_mk hP hK hD ht hW⟩, hS.F ht⟩) hS.2.2 dX1_cutLikeLines_30

noncomputable def fX1_bestColouringOf_L12 (n : Nat) (l1 : Int32) (l2 : Int32) (l3 : Int32) (l4 : Int32) (fxj : Nat → Int32) : Option (Int32 × Int32 × Int32) := match n with
  | 0 => none
  | n + 1 => if (63 : Int32) < l4 then (some (l2, l3, l4)) else (bd (fX1_likeLines fxj l1 l4) fun r2 => if l3 ≤ r2 then (fX1_bestColouringOf_L12 n l1 l2 l3 (l4 + (2 : Int32)) fxj) else (fX1_bestColouringOf_L12 n l1 l4 r2 (l4 + (2 : Int32)) fxj))
theorem fX1_bestColouringOf_L12_0 (l1 : Int32) (l2 : Int32) (l3 : Int32) (l4 : Int32) (fxj : Nat → Int32) : fX1_bestColouringOf_L12 0 l1 l2 l3 l4 fxj = none := rfl
theorem fX1_bestColouringOf_L12_s (n : Nat) (l1 : Int32) (l2 : Int32) (l3 : Int32) (l4 : Int32) (fxj : Nat → Int32) : fX1_bestColouringOf_L12 (n + 1) l1 l2 l3 l4 fxj = if (63 : Int32) < l4 then (some (l2, l3, l4)) else (bd (fX1_likeLines fxj l1 l4) fun r2 => if l3 ≤ r2 then (fX1_bestColouringOf_L12 n l1 l2 l3 (l4 + (2 : Int32)) fxj) else (fX1_bestColouringOf_L12 n l1 l4 r2 (l4 + (2 : Int32)) fxj)) := rfl
noncomputable def fX1_bestColouringOf (fxj : Nat → Int32) (p0 : Int32) : Option (Int32) := bd (fX1_likeLines fxj p0 (0 : Int32)) fun r1 => bd (fX1_bestColouringOf_L12 FU p0 (0 : Int32) r1 (2 : Int32) fxj) fun q6 => some q6.1
set_option maxHeartbeats 4000000 in
set_option maxRecDepth 100000 in
theorem c_X1_bestColouringOf (l : Launch) (dC : Nat → ClassId) (dI : Nat → Nat → Nat) (cy : ClassId) (ax axj : Nat) (sz : Nat) (fxj : Nat → Int32) (p0 : Int32) (res : Int32) (h : fX1_bestColouringOf fxj p0 = some res) : Met l yX1_bestColouringOf wsX1_bestColouringOf ({ frames := 2, cells := 0, slots := 0, locals := 45 }) (va_Pc [.ref ax, .int p0] (PW (dC, dI) cy sz [(ax, .inr (1, [.ref axj])), (axj, .inl (cy, 6, .inl fxj))])) (va_Qi (fun (r : Int32) (_ : Unit) => r = res) (QW (dC, dI) cy (va_A [(ax, .inr (1, [.ref axj])), (axj, .inl (cy, 6, .inl fxj))] sz) [(ax, .inr (1, [.ref axj])), (axj, .inl (cy, 6, .inl fxj))]) (va_A [(ax, .inr (1, [.ref axj])), (axj, .inl (cy, 6, .inl fxj))] sz)) 0 0 (va_A [(ax, .inr (1, [.ref axj])), (axj, .inl (cy, 6, .inl fxj))] sz) := by
  refine Met.ofW (cc := cX1_bestColouringOf) (maxL := 6) (ret := (some .int)) (by decide) rfl ?_
  intro p e s m args below meth c s₁ B hml hv
  obtain ⟨rfl, hsz, hP, hK, hD0, hN⟩ := hv
  have hx := B.exec
  have hb := B.bytes
  have hr := B.returns
  have hts := atoms_spec (ws := wsX1_bestColouringOf) B.pre
  have hown : s.vm.findClass RX1 = some m.cls := findClass_of_methodNamed B.named
  have hlocks := B.notSynchronized
  subst hsz
  have hD := hD0.self (sz := s.heap.size)
  clear hD0
  generalize hAe : va_A [(ax, .inr (1, [.ref axj])), (axj, .inl (cy, 6, .inl fxj))] s.heap.size = A at hD ⊢
  have hA : ∀ q : Nat, s.heap.size ≤ q → A q := fun q h => by rw [← hAe]; exact Or.inr h
  have hS : va_S A s.heap s.heap [] := va_S.rf
  have hl := lv_entry ([.ref ax, .int p0]) (n := 6) (Nat.le_of_ble_eq_true rfl)
  rw [lg_entry_eq]
  generalize (lg_sl ([.ref ax, .int p0]) ++ List.replicate (6 - (lg_sl ([.ref ax, .int p0])).length) Slot.unset).toArray = ls at hl ⊢
  replace hl : lv_has ls 6 [(0, .ref ax), (1, .int p0)] := hl
  replace hP : va_P (dC, dI) vwCl [(ax, .inr (1, [.ref axj])), (axj, .inl (cy, 6, .inl fxj))] s.heap := hP
  obtain ⟨locs, hlocs⟩ : ∃ lc : List Loc, lc = [] := ⟨_, rfl⟩
  rw [← hlocs] at hS ⊢
  obtain ⟨H, hH⟩ : ∃ H : Heap, H = s.heap := ⟨_, rfl⟩
  have hP2 := hP; rw [← hH] at hP2
  have hS2 : va_S A s.heap H locs := by rw [hH]; exact hS
  suffices hgo : W p l e (headSpec wsX1_bestColouringOf ({ frames := 2, cells := 0, slots := 0, locals := 45 })).room s m (([.ref ax, .int p0] : List Value).toArray) below meth c H locs 0 0 (MQ below (va_Qi (fun (r : Int32) (_ : Unit) => r = res) (QW (dC, dI) cy A [(ax, .inr (1, [.ref axj])), (axj, .inl (cy, 6, .inl fxj))]) A) (([.ref ax, .int p0] : List Value).toArray) s 0 0 A) (F0 m 0 ls []) by rw [hH] at hgo; exact hgo
  replace hP := hP2
  replace hS := hS2
  clear hP2 hS2
  unfold fX1_bestColouringOf at h
  refine lv_iconst (v := (0 : Int32)) hx hb dX1_bestColouringOf_0 (by decide) ?_
  refine lv_istore_n (lv' := [(2, .int (0 : Int32)), (0, .ref ax), (1, .int p0)]) hx hb dX1_bestColouringOf_1 rfl hl (by decide) rfl (fun ls hl => ?_)
  refine lv_aload_n hx hb dX1_bestColouringOf_2 rfl (lv_at hl 1 rfl) ?_
  refine lv_iload_n hx hb dX1_bestColouringOf_3 rfl (lv_at hl 2 rfl) ?_
  refine lv_iconst (v := (0 : Int32)) hx hb dX1_bestColouringOf_4 (by decide) ?_
  obtain ⟨r1, hr1, h⟩ := bd_some h
  have hFc := va_free (wc := [(ax, .inr (1, [.ref axj])), (axj, .inl (cy, 6, .inl fxj))]) hD hS hA [0, 1] rfl
  refine va_calli (va_runV (As := [.int p0, .int (0 : Int32)]) (rest := []) ⟨hx, hb, hml, hown, hts⟩ (c_X1_likeLines l dC dI cy ax axj H.size fxj p0 (0 : Int32) r1 hr1) (cwV 2 hts gX1_bestColouringOf_X1_likeLines rfl rfl rfl (by decide +kernel) ⟨Nat.le_of_ble_eq_true rfl, Nat.le_of_ble_eq_true rfl⟩) ⟨PW_fb, va_recv hK hP (ci := 1) (q0 := 0) rfl rfl, PW_pre (hP.sub (ws' := [(ax, .inr (1, [.ref axj])), (axj, .inl (cy, 6, .inl fxj))]) [0, 1] rfl) hK (hD.sub [0, 1] (by decide) rfl) hN⟩ rfl rfl hl.1 rfl (lv_room (Nat.le_of_ble_eq_true rfl)) dX1_bestColouringOf_5 ⟨Nat.zero_le _, Nat.zero_le _⟩) hS (fun q _ h => hFc q h) hFc (fun rz u t H locs ht hvm hw hB hz1 hk1 hS => ?_)
  obtain ⟨hP, hD⟩ := jn (wr := []) (w1 := [(ax, .inr (1, [.ref axj])), (axj, .inl (cy, 6, .inl fxj))]) (ws' := [(ax, .inr (1, [.ref axj])), (axj, .inl (cy, 6, .inl fxj))]) hP hD [0, 1] [] rfl rfl (by decide) (by decide) hk1 hFc hB ht [0, 1] rfl (by decide) rfl
  replace hw := hw.symm
  subst hw
  clear hFc hB hk1 hz1 hvm
  refine lv_istore_n (lv' := [(3, .int r1), (2, .int (0 : Int32)), (0, .ref ax), (1, .int p0)]) hx hb dX1_bestColouringOf_8 rfl hl (by decide) rfl (fun ls hl => ?_)
  refine lv_iconst (v := (2 : Int32)) hx hb dX1_bestColouringOf_9 (by decide) ?_
  refine lv_istore (lv' := [(4, .int (2 : Int32)), (3, .int r1), (2, .int (0 : Int32)), (0, .ref ax), (1, .int p0)]) hx hb dX1_bestColouringOf_10 hl (by decide) rfl (fun ls hl => ?_)
  have L12_4 : ∀ (n : Nat) (l1 : Int32) (l2 : Int32) (l3 : Int32) (l4 : Int32) (rs : (Int32 × Int32 × Int32)) (H : Heap) (locs : List Loc) (ls : Array Slot), fX1_bestColouringOf_L12 n l1 l2 l3 l4 fxj = some rs → lv_has ls 6 [(0, .ref ax), (1, .int l1), (2, .int l2), (3, .int l3), (4, .int l4)] → va_P (dC, dI) vwCl [(ax, .inr (1, [.ref axj])), (axj, .inl (cy, 6, .inl fxj))] H → va_D A [(ax, .inr (1, [.ref axj])), (axj, .inl (cy, 6, .inl fxj))] → va_S A s.heap H locs → (∀ (H : Heap) (locs : List Loc) (ls : Array Slot), lv_has ls 6 [(0, .ref ax), (1, .int l1), (2, .int rs.1), (3, .int rs.2.1), (4, .int rs.2.2)] → va_P (dC, dI) vwCl [(ax, .inr (1, [.ref axj])), (axj, .inl (cy, 6, .inl fxj))] H → va_D A [(ax, .inr (1, [.ref axj])), (axj, .inl (cy, 6, .inl fxj))] → va_S A s.heap H locs → W p l e (headSpec wsX1_bestColouringOf ({ frames := 2, cells := 0, slots := 0, locals := 45 })).room s m (([.ref ax, .int p0] : List Value).toArray) below meth c H locs 0 0 (MQ below (va_Qi (fun (r : Int32) (_ : Unit) => r = res) (QW (dC, dI) cy A [(ax, .inr (1, [.ref axj])), (axj, .inl (cy, 6, .inl fxj))]) A) (([.ref ax, .int p0] : List Value).toArray) s 0 0 A) (F0 m 46 ls [])) → W p l e (headSpec wsX1_bestColouringOf ({ frames := 2, cells := 0, slots := 0, locals := 45 })).room s m (([.ref ax, .int p0] : List Value).toArray) below meth c H locs 0 0 (MQ below (va_Qi (fun (r : Int32) (_ : Unit) => r = res) (QW (dC, dI) cy A [(ax, .inr (1, [.ref axj])), (axj, .inl (cy, 6, .inl fxj))]) A) (([.ref ax, .int p0] : List Value).toArray) s 0 0 A) (F0 m 12 ls []) := by
    intro n
    induction n with
    | zero =>
      intro l1 l2 l3 l4 rs H locs ls h
      rw [fX1_bestColouringOf_L12_0] at h
      cases h
    | succ n ih =>
      intro l1 l2 l3 l4 rs H locs ls h hl hP hD hS K
      rw [fX1_bestColouringOf_L12_s] at h
      refine lv_iload hx hb dX1_bestColouringOf_12 (lv_at hl 4 rfl) ?_
      refine lv_bipush (v := (63 : Int32)) hx hb dX1_bestColouringOf_14 (by decide) ?_
      refine lv_icmp_gt (tgt := 46) hx hb dX1_bestColouringOf_16 (by decide) (fun c4 => ?_) (fun c4 => ?_)
      · rw [if_pos c4] at h
        have h0 := Option.some.inj h
        subst h0
        exact K H locs ls (lv_sub hl [0, 1, 2, 3, 4] rfl) hP hD hS
      · rw [if_neg c4] at h
        refine lv_aload_n hx hb dX1_bestColouringOf_19 rfl (lv_at hl 0 rfl) ?_
        refine lv_iload_n hx hb dX1_bestColouringOf_20 rfl (lv_at hl 1 rfl) ?_
        refine lv_iload hx hb dX1_bestColouringOf_21 (lv_at hl 4 rfl) ?_
        obtain ⟨r2, hr2, h⟩ := bd_some h
        have hFc := va_free (wc := [(ax, .inr (1, [.ref axj])), (axj, .inl (cy, 6, .inl fxj))]) hD hS hA [0, 1] rfl
        refine va_calli (va_runV (As := [.int l1, .int l4]) (rest := []) ⟨hx, hb, hml, hown, hts⟩ (c_X1_likeLines l dC dI cy ax axj H.size fxj l1 l4 r2 hr2) (cwV 2 hts gX1_bestColouringOf_X1_likeLines rfl rfl rfl (by decide +kernel) ⟨Nat.le_of_ble_eq_true rfl, Nat.le_of_ble_eq_true rfl⟩) ⟨PW_fb, va_recv hK hP (ci := 1) (q0 := 0) rfl rfl, PW_pre (hP.sub (ws' := [(ax, .inr (1, [.ref axj])), (axj, .inl (cy, 6, .inl fxj))]) [0, 1] rfl) hK (hD.sub [0, 1] (by decide) rfl) hN⟩ rfl rfl hl.1 rfl (lv_room (Nat.le_of_ble_eq_true rfl)) dX1_bestColouringOf_23 ⟨Nat.zero_le _, Nat.zero_le _⟩) hS (fun q _ h => hFc q h) hFc (fun rz u t H locs ht hvm hw hB hz1 hk1 hS => ?_)
        obtain ⟨hP, hD⟩ := jn (wr := []) (w1 := [(ax, .inr (1, [.ref axj])), (axj, .inl (cy, 6, .inl fxj))]) (ws' := [(ax, .inr (1, [.ref axj])), (axj, .inl (cy, 6, .inl fxj))]) hP hD [0, 1] [] rfl rfl (by decide) (by decide) hk1 hFc hB ht [0, 1] rfl (by decide) rfl
        replace hw := hw.symm
        subst hw
        clear hFc hB hk1 hz1 hvm
        refine lv_istore (lv' := [(5, .int r2), (0, .ref ax), (1, .int l1), (2, .int l2), (3, .int l3), (4, .int l4)]) hx hb dX1_bestColouringOf_26 hl (by decide) rfl (fun ls hl => ?_)
        refine lv_iload hx hb dX1_bestColouringOf_28 (lv_at hl 0 rfl) ?_
        refine lv_iload_n hx hb dX1_bestColouringOf_30 rfl (lv_at hl 4 rfl) ?_
        refine lv_icmp_ge (tgt := 40) hx hb dX1_bestColouringOf_31 (by decide) (fun c3 => ?_) (fun c3 => ?_)
        · rw [if_pos c3] at h
          refine lv_iinc (v := l4 + (2 : Int32)) (lv' := [(4, .int (l4 + (2 : Int32))), (5, .int r2), (0, .ref ax), (1, .int l1), (2, .int l2), (3, .int l3)]) hx hb dX1_bestColouringOf_40 hl (k := 5) rfl rfl (by decide) rfl (fun ls hl => ?_)
          refine lv_goto (tgt := 12) hx hb dX1_bestColouringOf_43 (by decide) ?_
          exact ih l1 l2 l3 (l4 + (2 : Int32)) rs H locs ls h (lv_sub hl [2, 3, 4, 5, 0] rfl) hP hD hS K
        · rw [if_neg c3] at h
          refine lv_iload hx hb dX1_bestColouringOf_34 (lv_at hl 0 rfl) ?_
          refine lv_istore_n (lv' := [(3, .int r2), (5, .int r2), (0, .ref ax), (1, .int l1), (2, .int l2), (4, .int l4)]) hx hb dX1_bestColouringOf_36 rfl hl (by decide) rfl (fun ls hl => ?_)
          refine lv_iload hx hb dX1_bestColouringOf_37 (lv_at hl 5 rfl) ?_
          refine lv_istore_n (lv' := [(2, .int l4), (3, .int r2), (5, .int r2), (0, .ref ax), (1, .int l1), (4, .int l4)]) hx hb dX1_bestColouringOf_39 rfl hl (by decide) rfl (fun ls hl => ?_)
          refine lv_iinc (v := l4 + (2 : Int32)) (lv' := [(4, .int (l4 + (2 : Int32))), (2, .int l4), (3, .int r2), (5, .int r2), (0, .ref ax), (1, .int l1)]) hx hb dX1_bestColouringOf_40 hl (k := 5) rfl rfl (by decide) rfl (fun ls hl => ?_)
          refine lv_goto (tgt := 12) hx hb dX1_bestColouringOf_43 (by decide) ?_
          exact ih l1 l4 r2 (l4 + (2 : Int32)) rs H locs ls h (lv_sub hl [4, 5, 1, 2, 0] rfl) hP hD hS K
  obtain ⟨q6, hq6, h⟩ := bd_some h
  refine L12_4 FU p0 (0 : Int32) r1 (2 : Int32) q6 H locs ls hq6 (lv_sub hl [3, 4, 2, 1, 0] rfl) hP hD hS (fun H locs ls hl hP hD hS => ?_)
  refine lv_iload_n hx hb dX1_bestColouringOf_46 rfl (lv_at hl 2 rfl) ?_
  have h0 := Option.some.inj h
  subst h0
  exact W.iret hx hb hr (fun t ht hW => ⟨⟨_, (), rfl, rfl, QW_mk hP hK hD ht hW⟩, hS.F ht⟩) hS.2.2 dX1_bestColouringOf_47

noncomputable def fX1_bestColouring (fxj : Nat → Int32)  : Option (Int32) := bd (fX1_bestColouringOf fxj (63 : Int32)) fun r1 => some r1
set_option maxHeartbeats 4000000 in
set_option maxRecDepth 100000 in
theorem c_X1_bestColouring (l : Launch) (dC : Nat → ClassId) (dI : Nat → Nat → Nat) (cy : ClassId) (ax axj : Nat) (sz : Nat) (fxj : Nat → Int32)  (res : Int32) (h : fX1_bestColouring fxj = some res) : Met l yX1_bestColouring wsX1_bestColouring ({ frames := 3, cells := 0, slots := 0, locals := 70 }) (va_Pc [.ref ax] (PW (dC, dI) cy sz [(ax, .inr (1, [.ref axj])), (axj, .inl (cy, 6, .inl fxj))])) (va_Qi (fun (r : Int32) (_ : Unit) => r = res) (QW (dC, dI) cy (va_A [(ax, .inr (1, [.ref axj])), (axj, .inl (cy, 6, .inl fxj))] sz) [(ax, .inr (1, [.ref axj])), (axj, .inl (cy, 6, .inl fxj))]) (va_A [(ax, .inr (1, [.ref axj])), (axj, .inl (cy, 6, .inl fxj))] sz)) 0 0 (va_A [(ax, .inr (1, [.ref axj])), (axj, .inl (cy, 6, .inl fxj))] sz) := by
  refine Met.ofW (cc := cX1_bestColouring) (maxL := 1) (ret := (some .int)) (by decide) rfl ?_
  intro p e s m args below meth c s₁ B hml hv
  obtain ⟨rfl, hsz, hP, hK, hD0, hN⟩ := hv
  have hx := B.exec
  have hb := B.bytes
  have hr := B.returns
  have hts := atoms_spec (ws := wsX1_bestColouring) B.pre
  have hown : s.vm.findClass RX1 = some m.cls := findClass_of_methodNamed B.named
  have hlocks := B.notSynchronized
  subst hsz
  have hD := hD0.self (sz := s.heap.size)
  clear hD0
  generalize hAe : va_A [(ax, .inr (1, [.ref axj])), (axj, .inl (cy, 6, .inl fxj))] s.heap.size = A at hD ⊢
  have hA : ∀ q : Nat, s.heap.size ≤ q → A q := fun q h => by rw [← hAe]; exact Or.inr h
  have hS : va_S A s.heap s.heap [] := va_S.rf
  have hl := lv_entry ([.ref ax]) (n := 1) (Nat.le_of_ble_eq_true rfl)
  rw [lg_entry_eq]
  generalize (lg_sl ([.ref ax]) ++ List.replicate (1 - (lg_sl ([.ref ax])).length) Slot.unset).toArray = ls at hl ⊢
  replace hl : lv_has ls 1 [(0, .ref ax)] := hl
  replace hP : va_P (dC, dI) vwCl [(ax, .inr (1, [.ref axj])), (axj, .inl (cy, 6, .inl fxj))] s.heap := hP
  obtain ⟨locs, hlocs⟩ : ∃ lc : List Loc, lc = [] := ⟨_, rfl⟩
  rw [← hlocs] at hS ⊢
  obtain ⟨H, hH⟩ : ∃ H : Heap, H = s.heap := ⟨_, rfl⟩
  have hP2 := hP; rw [← hH] at hP2
  have hS2 : va_S A s.heap H locs := by rw [hH]; exact hS
  suffices hgo : W p l e (headSpec wsX1_bestColouring ({ frames := 3, cells := 0, slots := 0, locals := 70 })).room s m (([.ref ax] : List Value).toArray) below meth c H locs 0 0 (MQ below (va_Qi (fun (r : Int32) (_ : Unit) => r = res) (QW (dC, dI) cy A [(ax, .inr (1, [.ref axj])), (axj, .inl (cy, 6, .inl fxj))]) A) (([.ref ax] : List Value).toArray) s 0 0 A) (F0 m 0 ls []) by rw [hH] at hgo; exact hgo
  replace hP := hP2
  replace hS := hS2
  clear hP2 hS2
  unfold fX1_bestColouring at h
  refine lv_aload_n hx hb dX1_bestColouring_0 rfl (lv_at hl 0 rfl) ?_
  refine lv_bipush (v := (63 : Int32)) hx hb dX1_bestColouring_1 (by decide) ?_
  obtain ⟨r1, hr1, h⟩ := bd_some h
  have hFc := va_free (wc := [(ax, .inr (1, [.ref axj])), (axj, .inl (cy, 6, .inl fxj))]) hD hS hA [0, 1] rfl
  refine va_calli (va_runV (As := [.int (63 : Int32)]) (rest := []) ⟨hx, hb, hml, hown, hts⟩ (c_X1_bestColouringOf l dC dI cy ax axj H.size fxj (63 : Int32) r1 hr1) (cwV 1 hts gX1_bestColouring_X1_bestColouringOf rfl rfl rfl (by decide +kernel) ⟨Nat.le_of_ble_eq_true rfl, Nat.le_of_ble_eq_true rfl⟩) ⟨PW_fb, va_recv hK hP (ci := 1) (q0 := 0) rfl rfl, PW_pre (hP.sub (ws' := [(ax, .inr (1, [.ref axj])), (axj, .inl (cy, 6, .inl fxj))]) [0, 1] rfl) hK (hD.sub [0, 1] (by decide) rfl) hN⟩ rfl rfl hl.1 rfl (lv_room (Nat.le_of_ble_eq_true rfl)) dX1_bestColouring_3 ⟨Nat.zero_le _, Nat.zero_le _⟩) hS (fun q _ h => hFc q h) hFc (fun rz u t H locs ht hvm hw hB hz1 hk1 hS => ?_)
  obtain ⟨hP, hD⟩ := jn (wr := []) (w1 := [(ax, .inr (1, [.ref axj])), (axj, .inl (cy, 6, .inl fxj))]) (ws' := [(ax, .inr (1, [.ref axj])), (axj, .inl (cy, 6, .inl fxj))]) hP hD [0, 1] [] rfl rfl (by decide) (by decide) hk1 hFc hB ht [0, 1] rfl (by decide) rfl
  replace hw := hw.symm
  subst hw
  clear hFc hB hk1 hz1 hvm
  have h0 := Option.some.inj h
  subst h0
  exact W.iret hx hb hr (fun t ht hW => ⟨⟨_, (), rfl, rfl, QW_mk hP hK hD ht hW⟩, hS.F ht⟩) hS.2.2 dX1_bestColouring_6

noncomputable def fX1_twoColoured (fxj : Nat → Int32) (p0 : Int32) : Option (Int32) := bd (fX1_bestColouringOf fxj p0) fun r1 => bd (fX1_likeLines fxj p0 r1) fun r2 => if r2 = 0 then (some (1 : Int32)) else (some (0 : Int32))
set_option maxHeartbeats 4000000 in
set_option maxRecDepth 100000 in
theorem c_X1_twoColoured (l : Launch) (dC : Nat → ClassId) (dI : Nat → Nat → Nat) (cy : ClassId) (ax axj : Nat) (sz : Nat) (fxj : Nat → Int32) (p0 : Int32) (res : Int32) (h : fX1_twoColoured fxj p0 = some res) : Met l yX1_twoColoured wsX1_twoColoured ({ frames := 3, cells := 0, slots := 0, locals := 70 }) (va_Pc [.ref ax, .int p0] (PW (dC, dI) cy sz [(ax, .inr (1, [.ref axj])), (axj, .inl (cy, 6, .inl fxj))])) (va_Qi (fun (r : Int32) (_ : Unit) => r = res ∧ bo r) (QW (dC, dI) cy (va_A [(ax, .inr (1, [.ref axj])), (axj, .inl (cy, 6, .inl fxj))] sz) [(ax, .inr (1, [.ref axj])), (axj, .inl (cy, 6, .inl fxj))]) (va_A [(ax, .inr (1, [.ref axj])), (axj, .inl (cy, 6, .inl fxj))] sz)) 0 0 (va_A [(ax, .inr (1, [.ref axj])), (axj, .inl (cy, 6, .inl fxj))] sz) := by
  refine Met.ofW (cc := cX1_twoColoured) (maxL := 2) (ret := (some .boolean)) (by decide) rfl ?_
  intro p e s m args below meth c s₁ B hml hv
  obtain ⟨rfl, hsz, hP, hK, hD0, hN⟩ := hv
  have hx := B.exec
  have hb := B.bytes
  have hr := B.returns
  have hts := atoms_spec (ws := wsX1_twoColoured) B.pre
  have hown : s.vm.findClass RX1 = some m.cls := findClass_of_methodNamed B.named
  have hlocks := B.notSynchronized
  subst hsz
  have hD := hD0.self (sz := s.heap.size)
  clear hD0
  generalize hAe : va_A [(ax, .inr (1, [.ref axj])), (axj, .inl (cy, 6, .inl fxj))] s.heap.size = A at hD ⊢
  have hA : ∀ q : Nat, s.heap.size ≤ q → A q := fun q h => by rw [← hAe]; exact Or.inr h
  have hS : va_S A s.heap s.heap [] := va_S.rf
  have hl := lv_entry ([.ref ax, .int p0]) (n := 2) (Nat.le_of_ble_eq_true rfl)
  rw [lg_entry_eq]
  generalize (lg_sl ([.ref ax, .int p0]) ++ List.replicate (2 - (lg_sl ([.ref ax, .int p0])).length) Slot.unset).toArray = ls at hl ⊢
  replace hl : lv_has ls 2 [(0, .ref ax), (1, .int p0)] := hl
  replace hP : va_P (dC, dI) vwCl [(ax, .inr (1, [.ref axj])), (axj, .inl (cy, 6, .inl fxj))] s.heap := hP
  obtain ⟨locs, hlocs⟩ : ∃ lc : List Loc, lc = [] := ⟨_, rfl⟩
  rw [← hlocs] at hS ⊢
  obtain ⟨H, hH⟩ : ∃ H : Heap, H = s.heap := ⟨_, rfl⟩
  have hP2 := hP; rw [← hH] at hP2
  have hS2 : va_S A s.heap H locs := by rw [hH]; exact hS
  suffices hgo : W p l e (headSpec wsX1_twoColoured ({ frames := 3, cells := 0, slots := 0, locals := 70 })).room s m (([.ref ax, .int p0] : List Value).toArray) below meth c H locs 0 0 (MQ below (va_Qi (fun (r : Int32) (_ : Unit) => r = res ∧ bo r) (QW (dC, dI) cy A [(ax, .inr (1, [.ref axj])), (axj, .inl (cy, 6, .inl fxj))]) A) (([.ref ax, .int p0] : List Value).toArray) s 0 0 A) (F0 m 0 ls []) by rw [hH] at hgo; exact hgo
  replace hP := hP2
  replace hS := hS2
  clear hP2 hS2
  unfold fX1_twoColoured at h
  refine lv_aload_n hx hb dX1_twoColoured_0 rfl (lv_at hl 0 rfl) ?_
  refine lv_iload_n hx hb dX1_twoColoured_1 rfl (lv_at hl 1 rfl) ?_
  refine lv_aload_n hx hb dX1_twoColoured_2 rfl (lv_at hl 0 rfl) ?_
  refine lv_iload_n hx hb dX1_twoColoured_3 rfl (lv_at hl 1 rfl) ?_
  obtain ⟨r1, hr1, h⟩ := bd_some h
  have hFc := va_free (wc := [(ax, .inr (1, [.ref axj])), (axj, .inl (cy, 6, .inl fxj))]) hD hS hA [0, 1] rfl
  refine va_calli (va_runV (As := [.int p0]) (rest := [.int p0, .ref ax]) ⟨hx, hb, hml, hown, hts⟩ (c_X1_bestColouringOf l dC dI cy ax axj H.size fxj p0 r1 hr1) (cwV 1 hts gX1_twoColoured_X1_bestColouringOf rfl rfl rfl (by decide +kernel) ⟨Nat.le_of_ble_eq_true rfl, Nat.le_of_ble_eq_true rfl⟩) ⟨PW_fb, va_recv hK hP (ci := 1) (q0 := 0) rfl rfl, PW_pre (hP.sub (ws' := [(ax, .inr (1, [.ref axj])), (axj, .inl (cy, 6, .inl fxj))]) [0, 1] rfl) hK (hD.sub [0, 1] (by decide) rfl) hN⟩ rfl rfl hl.1 rfl (lv_room (Nat.le_of_ble_eq_true rfl)) dX1_twoColoured_4 ⟨Nat.zero_le _, Nat.zero_le _⟩) hS (fun q _ h => hFc q h) hFc (fun rz u t H locs ht hvm hw hB hz1 hk1 hS => ?_)
  obtain ⟨hP, hD⟩ := jn (wr := []) (w1 := [(ax, .inr (1, [.ref axj])), (axj, .inl (cy, 6, .inl fxj))]) (ws' := [(ax, .inr (1, [.ref axj])), (axj, .inl (cy, 6, .inl fxj))]) hP hD [0, 1] [] rfl rfl (by decide) (by decide) hk1 hFc hB ht [0, 1] rfl (by decide) rfl
  replace hw := hw.symm
  subst hw
  clear hFc hB hk1 hz1 hvm
  obtain ⟨r2, hr2, h⟩ := bd_some h
  have hFc := va_free (wc := [(ax, .inr (1, [.ref axj])), (axj, .inl (cy, 6, .inl fxj))]) hD hS hA [0, 1] rfl
  refine va_calli (va_runV (As := [.int p0, .int r1]) (rest := []) ⟨hx, hb, hml, hown, hts⟩ (c_X1_likeLines l dC dI cy ax axj H.size fxj p0 r1 r2 hr2) (cwV 2 hts gX1_twoColoured_X1_likeLines rfl rfl rfl (by decide +kernel) ⟨Nat.le_of_ble_eq_true rfl, Nat.le_of_ble_eq_true rfl⟩) ⟨PW_fb, va_recv hK hP (ci := 1) (q0 := 0) rfl rfl, PW_pre (hP.sub (ws' := [(ax, .inr (1, [.ref axj])), (axj, .inl (cy, 6, .inl fxj))]) [0, 1] rfl) hK (hD.sub [0, 1] (by decide) rfl) hN⟩ rfl rfl hl.1 rfl (lv_room (Nat.le_of_ble_eq_true rfl)) dX1_twoColoured_7 ⟨Nat.zero_le _, Nat.zero_le _⟩) hS (fun q _ h => hFc q h) hFc (fun rz u t H locs ht hvm hw hB hz1 hk1 hS => ?_)
  obtain ⟨hP, hD⟩ := jn (wr := []) (w1 := [(ax, .inr (1, [.ref axj])), (axj, .inl (cy, 6, .inl fxj))]) (ws' := [(ax, .inr (1, [.ref axj])), (axj, .inl (cy, 6, .inl fxj))]) hP hD [0, 1] [] rfl rfl (by decide) (by decide) hk1 hFc hB ht [0, 1] rfl (by decide) rfl
  replace hw := hw.symm
  subst hw
  clear hFc hB hk1 hz1 hvm
  refine lv_if_ne (tgt := 17) hx hb dX1_twoColoured_10 (by decide) (fun c3 => ?_) (fun c3 => ?_)
  · rw [if_neg c3] at h
    refine lv_iconst (v := (0 : Int32)) hx hb dX1_twoColoured_17 (by decide) ?_
    have h0 := Option.some.inj h
    subst h0
    exact W.zret (ty := .boolean) hx hb hr bo_0 (fun t ht hW => ⟨⟨_, (), rfl, ⟨rfl, bo_0⟩, QW_mk hP hK hD ht hW⟩, hS.F ht⟩) hS.2.2 dX1_twoColoured_18
  · rw [if_pos c3] at h
    refine lv_iconst (v := (1 : Int32)) hx hb dX1_twoColoured_13 (by decide) ?_
    refine lv_goto (tgt := 18) hx hb dX1_twoColoured_14 (by decide) ?_
    have h0 := Option.some.inj h
    subst h0
    exact W.zret (ty := .boolean) hx hb hr bo_1 (fun t ht hW => ⟨⟨_, (), rfl, ⟨rfl, bo_1⟩, QW_mk hP hK hD ht hW⟩, hS.F ht⟩) hS.2.2 dX1_twoColoured_18

noncomputable def fX1_sets_L4 (n : Nat) (l0 : Int32) (l1 : Int32) (l2 : Int32) : Option (Int32 × Int32) := match n with
  | 0 => none
  | n + 1 => if (63 : Int32) < l2 then (some (l1, l2)) else (bd (fJ6_bitCount_0f7a4 l2) fun r1 => if r1 = l0 then (fX1_sets_L4 n l0 (l1 + (1 : Int32)) (l2 + (1 : Int32))) else (fX1_sets_L4 n l0 l1 (l2 + (1 : Int32))))
theorem fX1_sets_L4_0 (l0 : Int32) (l1 : Int32) (l2 : Int32) : fX1_sets_L4 0 l0 l1 l2 = none := rfl
theorem fX1_sets_L4_s (n : Nat) (l0 : Int32) (l1 : Int32) (l2 : Int32) : fX1_sets_L4 (n + 1) l0 l1 l2 = if (63 : Int32) < l2 then (some (l1, l2)) else (bd (fJ6_bitCount_0f7a4 l2) fun r1 => if r1 = l0 then (fX1_sets_L4 n l0 (l1 + (1 : Int32)) (l2 + (1 : Int32))) else (fX1_sets_L4 n l0 l1 (l2 + (1 : Int32)))) := rfl
noncomputable def fX1_sets  (p0 : Int32) : Option (Int32) := bd (fX1_sets_L4 FU p0 (0 : Int32) (0 : Int32)) fun q5 => some q5.1
set_option maxHeartbeats 4000000 in
set_option maxRecDepth 100000 in
theorem c_X1_sets (l : Launch) (dC : Nat → ClassId) (dI : Nat → Nat → Nat) (cy : ClassId)  (sz : Nat)  (p0 : Int32) (res : Int32) (h : fX1_sets p0 = some res) : Met l yX1_sets wsX1_sets ({ frames := 1, cells := 0, slots := 0, locals := 20 }) (va_Pc [.int p0] (PW (dC, dI) cy sz [])) (va_Qi (fun (r : Int32) (_ : Unit) => r = res) (QW (dC, dI) cy (va_A [] sz) []) (va_A [] sz)) 0 0 (va_A [] sz) := by
  refine Met.ofW (cc := cX1_sets) (maxL := 3) (ret := (some .int)) (by decide) rfl ?_
  intro p e s m args below meth c s₁ B hml hv
  obtain ⟨rfl, hsz, hP, hK, hD0, hN⟩ := hv
  have hx := B.exec
  have hb := B.bytes
  have hr := B.returns
  have hts := atoms_spec (ws := wsX1_sets) B.pre
  have hown : s.vm.findClass RX1 = some m.cls := findClass_of_methodNamed B.named
  have hlocks := B.notSynchronized
  subst hsz
  have hD := hD0.self (sz := s.heap.size)
  clear hD0
  generalize hAe : va_A [] s.heap.size = A at hD ⊢
  have hA : ∀ q : Nat, s.heap.size ≤ q → A q := fun q h => by rw [← hAe]; exact Or.inr h
  have hS : va_S A s.heap s.heap [] := va_S.rf
  have hl := lv_entry ([.int p0]) (n := 3) (Nat.le_of_ble_eq_true rfl)
  rw [lg_entry_eq]
  generalize (lg_sl ([.int p0]) ++ List.replicate (3 - (lg_sl ([.int p0])).length) Slot.unset).toArray = ls at hl ⊢
  replace hl : lv_has ls 3 [(0, .int p0)] := hl
  replace hP : va_P (dC, dI) vwCl [] s.heap := hP
  obtain ⟨locs, hlocs⟩ : ∃ lc : List Loc, lc = [] := ⟨_, rfl⟩
  rw [← hlocs] at hS ⊢
  obtain ⟨H, hH⟩ : ∃ H : Heap, H = s.heap := ⟨_, rfl⟩
  have hP2 := hP; rw [← hH] at hP2
  have hS2 : va_S A s.heap H locs := by rw [hH]; exact hS
  suffices hgo : W p l e (headSpec wsX1_sets ({ frames := 1, cells := 0, slots := 0, locals := 20 })).room s m (([.int p0] : List Value).toArray) below meth c H locs 0 0 (MQ below (va_Qi (fun (r : Int32) (_ : Unit) => r = res) (QW (dC, dI) cy A []) A) (([.int p0] : List Value).toArray) s 0 0 A) (F0 m 0 ls []) by rw [hH] at hgo; exact hgo
  replace hP := hP2
  replace hS := hS2
  clear hP2 hS2
  unfold fX1_sets at h
  refine lv_iconst (v := (0 : Int32)) hx hb dX1_sets_0 (by decide) ?_
  refine lv_istore_n (lv' := [(1, .int (0 : Int32)), (0, .int p0)]) hx hb dX1_sets_1 rfl hl (by decide) rfl (fun ls hl => ?_)
  refine lv_iconst (v := (0 : Int32)) hx hb dX1_sets_2 (by decide) ?_
  refine lv_istore_n (lv' := [(2, .int (0 : Int32)), (1, .int (0 : Int32)), (0, .int p0)]) hx hb dX1_sets_3 rfl hl (by decide) rfl (fun ls hl => ?_)
  have L4_3 : ∀ (n : Nat) (l0 : Int32) (l1 : Int32) (l2 : Int32) (rs : (Int32 × Int32)) (H : Heap) (locs : List Loc) (ls : Array Slot), fX1_sets_L4 n l0 l1 l2 = some rs → lv_has ls 3 [(0, .int l0), (1, .int l1), (2, .int l2)] → va_P (dC, dI) vwCl [] H → va_D A [] → va_S A s.heap H locs → (∀ (H : Heap) (locs : List Loc) (ls : Array Slot), lv_has ls 3 [(0, .int l0), (1, .int rs.1), (2, .int rs.2)] → va_P (dC, dI) vwCl [] H → va_D A [] → va_S A s.heap H locs → W p l e (headSpec wsX1_sets ({ frames := 1, cells := 0, slots := 0, locals := 20 })).room s m (([.int p0] : List Value).toArray) below meth c H locs 0 0 (MQ below (va_Qi (fun (r : Int32) (_ : Unit) => r = res) (QW (dC, dI) cy A []) A) (([.int p0] : List Value).toArray) s 0 0 A) (F0 m 27 ls [])) → W p l e (headSpec wsX1_sets ({ frames := 1, cells := 0, slots := 0, locals := 20 })).room s m (([.int p0] : List Value).toArray) below meth c H locs 0 0 (MQ below (va_Qi (fun (r : Int32) (_ : Unit) => r = res) (QW (dC, dI) cy A []) A) (([.int p0] : List Value).toArray) s 0 0 A) (F0 m 4 ls []) := by
    intro n
    induction n with
    | zero =>
      intro l0 l1 l2 rs H locs ls h
      rw [fX1_sets_L4_0] at h
      cases h
    | succ n ih =>
      intro l0 l1 l2 rs H locs ls h hl hP hD hS K
      rw [fX1_sets_L4_s] at h
      refine lv_iload_n hx hb dX1_sets_4 rfl (lv_at hl 2 rfl) ?_
      refine lv_bipush (v := (63 : Int32)) hx hb dX1_sets_5 (by decide) ?_
      refine lv_icmp_gt (tgt := 27) hx hb dX1_sets_7 (by decide) (fun c3 => ?_) (fun c3 => ?_)
      · rw [if_pos c3] at h
        have h0 := Option.some.inj h
        subst h0
        exact K H locs ls (lv_sub hl [0, 1, 2] rfl) hP hD hS
      · rw [if_neg c3] at h
        refine lv_iload_n hx hb dX1_sets_10 rfl (lv_at hl 2 rfl) ?_
        obtain ⟨r1, hr1, h⟩ := bd_some h
        have hFc := va_free (wc := []) hD hS hA [] rfl
        refine va_calli (va_runS (As := [.int l2]) (rest := []) ⟨hx, hb, hml, hown, hts⟩ (c_J6_bitCount_0f7a4 l dC dI cy  H.size  l2 r1 hr1) (va_cwS 1 hts gX1_sets_J6_bitCount_0f7a4 rfl rfl rfl (by decide +kernel) ⟨Nat.le_of_ble_eq_true rfl, Nat.le_of_ble_eq_true rfl⟩) ⟨PW_fb, PW_pre (hP.sub (ws' := []) [] rfl) hK (hD.sub [] (by decide) rfl) hN⟩ rfl rfl hl.1 rfl (lv_room (Nat.le_of_ble_eq_true rfl)) dX1_sets_11 ⟨Nat.zero_le _, Nat.zero_le _⟩) hS (fun q _ h => hFc q h) hFc (fun rz u t H locs ht hvm hw hB hz1 hk1 hS => ?_)
        obtain ⟨hP, hD⟩ := jn (wr := []) (w1 := []) (ws' := []) hP hD [] [] rfl rfl (by decide) (by decide) hk1 hFc hB ht [] rfl (by decide) rfl
        replace hw := hw.symm
        subst hw
        clear hFc hB hk1 hz1 hvm
        refine lv_iload_n hx hb dX1_sets_14 rfl (lv_at hl 0 rfl) ?_
        refine lv_icmp_ne (tgt := 21) hx hb dX1_sets_15 (by decide) (fun c2 => ?_) (fun c2 => ?_)
        · rw [if_neg c2] at h
          refine lv_iinc (v := l2 + (1 : Int32)) (lv' := [(2, .int (l2 + (1 : Int32))), (0, .int l0), (1, .int l1)]) hx hb dX1_sets_21 hl (k := 2) rfl rfl (by decide) rfl (fun ls hl => ?_)
          refine lv_goto (tgt := 4) hx hb dX1_sets_24 (by decide) ?_
          exact ih l0 l1 (l2 + (1 : Int32)) rs H locs ls h (lv_sub hl [1, 2, 0] rfl) hP hD hS K
        · rw [if_pos c2] at h
          refine lv_iinc (v := l1 + (1 : Int32)) (lv' := [(1, .int (l1 + (1 : Int32))), (0, .int l0), (2, .int l2)]) hx hb dX1_sets_18 hl (k := 1) rfl rfl (by decide) rfl (fun ls hl => ?_)
          refine lv_iinc (v := l2 + (1 : Int32)) (lv' := [(2, .int (l2 + (1 : Int32))), (1, .int (l1 + (1 : Int32))), (0, .int l0)]) hx hb dX1_sets_21 hl (k := 2) rfl rfl (by decide) rfl (fun ls hl => ?_)
          refine lv_goto (tgt := 4) hx hb dX1_sets_24 (by decide) ?_
          exact ih l0 (l1 + (1 : Int32)) (l2 + (1 : Int32)) rs H locs ls h (lv_sub hl [2, 1, 0] rfl) hP hD hS K
  obtain ⟨q5, hq5, h⟩ := bd_some h
  refine L4_3 FU p0 (0 : Int32) (0 : Int32) q5 H locs ls hq5 (lv_sub hl [2, 1, 0] rfl) hP hD hS (fun H locs ls hl hP hD hS => ?_)
  refine lv_iload_n hx hb dX1_sets_27 rfl (lv_at hl 1 rfl) ?_
  have h0 := Option.some.inj h
  subst h0
  exact W.iret hx hb hr (fun t ht hW => ⟨⟨_, (), rfl, rfl, QW_mk hP hK hD ht hW⟩, hS.F ht⟩) hS.2.2 dX1_sets_28

noncomputable def fX1_passing_L4 (n : Nat) (l1 : Int32) (l2 : Int32) (l3 : Int32) (fxj : Nat → Int32) : Option (Int32 × Int32) := match n with
  | 0 => none
  | n + 1 => if (63 : Int32) < l3 then (some (l2, l3)) else (bd (fJ6_bitCount_0f7a4 l3) fun r1 => if r1 = l1 then (bd (fX1_twoColoured fxj l3) fun r2 => if r2 = 0 then (fX1_passing_L4 n l1 l2 (l3 + (1 : Int32)) fxj) else (fX1_passing_L4 n l1 (l2 + (1 : Int32)) (l3 + (1 : Int32)) fxj)) else (fX1_passing_L4 n l1 l2 (l3 + (1 : Int32)) fxj))
theorem fX1_passing_L4_0 (l1 : Int32) (l2 : Int32) (l3 : Int32) (fxj : Nat → Int32) : fX1_passing_L4 0 l1 l2 l3 fxj = none := rfl
theorem fX1_passing_L4_s (n : Nat) (l1 : Int32) (l2 : Int32) (l3 : Int32) (fxj : Nat → Int32) : fX1_passing_L4 (n + 1) l1 l2 l3 fxj = if (63 : Int32) < l3 then (some (l2, l3)) else (bd (fJ6_bitCount_0f7a4 l3) fun r1 => if r1 = l1 then (bd (fX1_twoColoured fxj l3) fun r2 => if r2 = 0 then (fX1_passing_L4 n l1 l2 (l3 + (1 : Int32)) fxj) else (fX1_passing_L4 n l1 (l2 + (1 : Int32)) (l3 + (1 : Int32)) fxj)) else (fX1_passing_L4 n l1 l2 (l3 + (1 : Int32)) fxj)) := rfl
noncomputable def fX1_passing (fxj : Nat → Int32) (p0 : Int32) : Option (Int32) := bd (fX1_passing_L4 FU p0 (0 : Int32) (0 : Int32) fxj) fun q7 => some q7.1
set_option maxHeartbeats 4000000 in
set_option maxRecDepth 100000 in
theorem c_X1_passing (l : Launch) (dC : Nat → ClassId) (dI : Nat → Nat → Nat) (cy : ClassId) (ax axj : Nat) (sz : Nat) (fxj : Nat → Int32) (p0 : Int32) (res : Int32) (h : fX1_passing fxj p0 = some res) : Met l yX1_passing wsX1_passing ({ frames := 4, cells := 0, slots := 0, locals := 91 }) (va_Pc [.ref ax, .int p0] (PW (dC, dI) cy sz [(ax, .inr (1, [.ref axj])), (axj, .inl (cy, 6, .inl fxj))])) (va_Qi (fun (r : Int32) (_ : Unit) => r = res) (QW (dC, dI) cy (va_A [(ax, .inr (1, [.ref axj])), (axj, .inl (cy, 6, .inl fxj))] sz) [(ax, .inr (1, [.ref axj])), (axj, .inl (cy, 6, .inl fxj))]) (va_A [(ax, .inr (1, [.ref axj])), (axj, .inl (cy, 6, .inl fxj))] sz)) 0 0 (va_A [(ax, .inr (1, [.ref axj])), (axj, .inl (cy, 6, .inl fxj))] sz) := by
  refine Met.ofW (cc := cX1_passing) (maxL := 4) (ret := (some .int)) (by decide) rfl ?_
  intro p e s m args below meth c s₁ B hml hv
  obtain ⟨rfl, hsz, hP, hK, hD0, hN⟩ := hv
  have hx := B.exec
  have hb := B.bytes
  have hr := B.returns
  have hts := atoms_spec (ws := wsX1_passing) B.pre
  have hown : s.vm.findClass RX1 = some m.cls := findClass_of_methodNamed B.named
  have hlocks := B.notSynchronized
  subst hsz
  have hD := hD0.self (sz := s.heap.size)
  clear hD0
  generalize hAe : va_A [(ax, .inr (1, [.ref axj])), (axj, .inl (cy, 6, .inl fxj))] s.heap.size = A at hD ⊢
  have hA : ∀ q : Nat, s.heap.size ≤ q → A q := fun q h => by rw [← hAe]; exact Or.inr h
  have hS : va_S A s.heap s.heap [] := va_S.rf
  have hl := lv_entry ([.ref ax, .int p0]) (n := 4) (Nat.le_of_ble_eq_true rfl)
  rw [lg_entry_eq]
  generalize (lg_sl ([.ref ax, .int p0]) ++ List.replicate (4 - (lg_sl ([.ref ax, .int p0])).length) Slot.unset).toArray = ls at hl ⊢
  replace hl : lv_has ls 4 [(0, .ref ax), (1, .int p0)] := hl
  replace hP : va_P (dC, dI) vwCl [(ax, .inr (1, [.ref axj])), (axj, .inl (cy, 6, .inl fxj))] s.heap := hP
  obtain ⟨locs, hlocs⟩ : ∃ lc : List Loc, lc = [] := ⟨_, rfl⟩
  rw [← hlocs] at hS ⊢
  obtain ⟨H, hH⟩ : ∃ H : Heap, H = s.heap := ⟨_, rfl⟩
  have hP2 := hP; rw [← hH] at hP2
  have hS2 : va_S A s.heap H locs := by rw [hH]; exact hS
  suffices hgo : W p l e (headSpec wsX1_passing ({ frames := 4, cells := 0, slots := 0, locals := 91 })).room s m (([.ref ax, .int p0] : List Value).toArray) below meth c H locs 0 0 (MQ below (va_Qi (fun (r : Int32) (_ : Unit) => r = res) (QW (dC, dI) cy A [(ax, .inr (1, [.ref axj])), (axj, .inl (cy, 6, .inl fxj))]) A) (([.ref ax, .int p0] : List Value).toArray) s 0 0 A) (F0 m 0 ls []) by rw [hH] at hgo; exact hgo
  replace hP := hP2
  replace hS := hS2
  clear hP2 hS2
  unfold fX1_passing at h
  refine lv_iconst (v := (0 : Int32)) hx hb dX1_passing_0 (by decide) ?_
  refine lv_istore_n (lv' := [(2, .int (0 : Int32)), (0, .ref ax), (1, .int p0)]) hx hb dX1_passing_1 rfl hl (by decide) rfl (fun ls hl => ?_)
  refine lv_iconst (v := (0 : Int32)) hx hb dX1_passing_2 (by decide) ?_
  refine lv_istore_n (lv' := [(3, .int (0 : Int32)), (2, .int (0 : Int32)), (0, .ref ax), (1, .int p0)]) hx hb dX1_passing_3 rfl hl (by decide) rfl (fun ls hl => ?_)
  have L4_5 : ∀ (n : Nat) (l1 : Int32) (l2 : Int32) (l3 : Int32) (rs : (Int32 × Int32)) (H : Heap) (locs : List Loc) (ls : Array Slot), fX1_passing_L4 n l1 l2 l3 fxj = some rs → lv_has ls 4 [(0, .ref ax), (1, .int l1), (2, .int l2), (3, .int l3)] → va_P (dC, dI) vwCl [(ax, .inr (1, [.ref axj])), (axj, .inl (cy, 6, .inl fxj))] H → va_D A [(ax, .inr (1, [.ref axj])), (axj, .inl (cy, 6, .inl fxj))] → va_S A s.heap H locs → (∀ (H : Heap) (locs : List Loc) (ls : Array Slot), lv_has ls 4 [(0, .ref ax), (1, .int l1), (2, .int rs.1), (3, .int rs.2)] → va_P (dC, dI) vwCl [(ax, .inr (1, [.ref axj])), (axj, .inl (cy, 6, .inl fxj))] H → va_D A [(ax, .inr (1, [.ref axj])), (axj, .inl (cy, 6, .inl fxj))] → va_S A s.heap H locs → W p l e (headSpec wsX1_passing ({ frames := 4, cells := 0, slots := 0, locals := 91 })).room s m (([.ref ax, .int p0] : List Value).toArray) below meth c H locs 0 0 (MQ below (va_Qi (fun (r : Int32) (_ : Unit) => r = res) (QW (dC, dI) cy A [(ax, .inr (1, [.ref axj])), (axj, .inl (cy, 6, .inl fxj))]) A) (([.ref ax, .int p0] : List Value).toArray) s 0 0 A) (F0 m 35 ls [])) → W p l e (headSpec wsX1_passing ({ frames := 4, cells := 0, slots := 0, locals := 91 })).room s m (([.ref ax, .int p0] : List Value).toArray) below meth c H locs 0 0 (MQ below (va_Qi (fun (r : Int32) (_ : Unit) => r = res) (QW (dC, dI) cy A [(ax, .inr (1, [.ref axj])), (axj, .inl (cy, 6, .inl fxj))]) A) (([.ref ax, .int p0] : List Value).toArray) s 0 0 A) (F0 m 4 ls []) := by
    intro n
    induction n with
    | zero =>
      intro l1 l2 l3 rs H locs ls h
      rw [fX1_passing_L4_0] at h
      cases h
    | succ n ih =>
      intro l1 l2 l3 rs H locs ls h hl hP hD hS K
      rw [fX1_passing_L4_s] at h
      refine lv_iload_n hx hb dX1_passing_4 rfl (lv_at hl 3 rfl) ?_
      refine lv_bipush (v := (63 : Int32)) hx hb dX1_passing_5 (by decide) ?_
      refine lv_icmp_gt (tgt := 35) hx hb dX1_passing_7 (by decide) (fun c5 => ?_) (fun c5 => ?_)
      · rw [if_pos c5] at h
        have h0 := Option.some.inj h
        subst h0
        exact K H locs ls (lv_sub hl [0, 1, 2, 3] rfl) hP hD hS
      · rw [if_neg c5] at h
        refine lv_iload_n hx hb dX1_passing_10 rfl (lv_at hl 3 rfl) ?_
        obtain ⟨r1, hr1, h⟩ := bd_some h
        have hFc := va_free (wc := []) hD hS hA [] rfl
        refine va_calli (va_runS (As := [.int l3]) (rest := []) ⟨hx, hb, hml, hown, hts⟩ (c_J6_bitCount_0f7a4 l dC dI cy  H.size  l3 r1 hr1) (va_cwS 1 hts gX1_passing_J6_bitCount_0f7a4 rfl rfl rfl (by decide +kernel) ⟨Nat.le_of_ble_eq_true rfl, Nat.le_of_ble_eq_true rfl⟩) ⟨PW_fb, PW_pre (hP.sub (ws' := []) [] rfl) hK (hD.sub [] (by decide) rfl) hN⟩ rfl rfl hl.1 rfl (lv_room (Nat.le_of_ble_eq_true rfl)) dX1_passing_11 ⟨Nat.zero_le _, Nat.zero_le _⟩) hS (fun q _ h => hFc q h) hFc (fun rz u t H locs ht hvm hw hB hz1 hk1 hS => ?_)
        obtain ⟨hP, hD⟩ := jn (wr := [(ax, .inr (1, [.ref axj])), (axj, .inl (cy, 6, .inl fxj))]) (w1 := []) (ws' := [(ax, .inr (1, [.ref axj])), (axj, .inl (cy, 6, .inl fxj))]) hP hD [] [0, 1] rfl rfl (by decide) (by decide) hk1 hFc hB ht [0, 1] rfl (by decide) rfl
        replace hw := hw.symm
        subst hw
        clear hFc hB hk1 hz1 hvm
        refine lv_iload_n hx hb dX1_passing_14 rfl (lv_at hl 1 rfl) ?_
        refine lv_icmp_ne (tgt := 29) hx hb dX1_passing_15 (by decide) (fun c4 => ?_) (fun c4 => ?_)
        · rw [if_neg c4] at h
          refine lv_iinc (v := l3 + (1 : Int32)) (lv' := [(3, .int (l3 + (1 : Int32))), (0, .ref ax), (1, .int l1), (2, .int l2)]) hx hb dX1_passing_29 hl (k := 3) rfl rfl (by decide) rfl (fun ls hl => ?_)
          refine lv_goto (tgt := 4) hx hb dX1_passing_32 (by decide) ?_
          exact ih l1 l2 (l3 + (1 : Int32)) rs H locs ls h (lv_sub hl [1, 2, 3, 0] rfl) hP hD hS K
        · rw [if_pos c4] at h
          refine lv_aload_n hx hb dX1_passing_18 rfl (lv_at hl 0 rfl) ?_
          refine lv_iload_n hx hb dX1_passing_19 rfl (lv_at hl 3 rfl) ?_
          obtain ⟨r2, hr2, h⟩ := bd_some h
          have hFc := va_free (wc := [(ax, .inr (1, [.ref axj])), (axj, .inl (cy, 6, .inl fxj))]) hD hS hA [0, 1] rfl
          refine va_calli (va_runV (As := [.int l3]) (rest := []) ⟨hx, hb, hml, hown, hts⟩ (c_X1_twoColoured l dC dI cy ax axj H.size fxj l3 r2 hr2) (cwV 1 hts gX1_passing_X1_twoColoured rfl rfl rfl (by decide +kernel) ⟨Nat.le_of_ble_eq_true rfl, Nat.le_of_ble_eq_true rfl⟩) ⟨PW_fb, va_recv hK hP (ci := 1) (q0 := 0) rfl rfl, PW_pre (hP.sub (ws' := [(ax, .inr (1, [.ref axj])), (axj, .inl (cy, 6, .inl fxj))]) [0, 1] rfl) hK (hD.sub [0, 1] (by decide) rfl) hN⟩ rfl rfl hl.1 rfl (lv_room (Nat.le_of_ble_eq_true rfl)) dX1_passing_20 ⟨Nat.zero_le _, Nat.zero_le _⟩) hS (fun q _ h => hFc q h) hFc (fun rz u t H locs ht hvm hw hB hz1 hk1 hS => ?_)
          obtain ⟨hP, hD⟩ := jn (wr := []) (w1 := [(ax, .inr (1, [.ref axj])), (axj, .inl (cy, 6, .inl fxj))]) (ws' := [(ax, .inr (1, [.ref axj])), (axj, .inl (cy, 6, .inl fxj))]) hP hD [0, 1] [] rfl rfl (by decide) (by decide) hk1 hFc hB ht [0, 1] rfl (by decide) rfl
          obtain ⟨hw, br2⟩ := hw
          replace hw := hw.symm
          subst hw
          clear hFc hB hk1 hz1 hvm
          refine lv_if_eq (tgt := 29) hx hb dX1_passing_23 (by decide) (fun c3 => ?_) (fun c3 => ?_)
          · rw [if_pos c3] at h
            refine lv_iinc (v := l3 + (1 : Int32)) (lv' := [(3, .int (l3 + (1 : Int32))), (0, .ref ax), (1, .int l1), (2, .int l2)]) hx hb dX1_passing_29 hl (k := 3) rfl rfl (by decide) rfl (fun ls hl => ?_)
            refine lv_goto (tgt := 4) hx hb dX1_passing_32 (by decide) ?_
            exact ih l1 l2 (l3 + (1 : Int32)) rs H locs ls h (lv_sub hl [1, 2, 3, 0] rfl) hP hD hS K
          · rw [if_neg c3] at h
            refine lv_iinc (v := l2 + (1 : Int32)) (lv' := [(2, .int (l2 + (1 : Int32))), (0, .ref ax), (1, .int l1), (3, .int l3)]) hx hb dX1_passing_26 hl (k := 2) rfl rfl (by decide) rfl (fun ls hl => ?_)
            refine lv_iinc (v := l3 + (1 : Int32)) (lv' := [(3, .int (l3 + (1 : Int32))), (2, .int (l2 + (1 : Int32))), (0, .ref ax), (1, .int l1)]) hx hb dX1_passing_29 hl (k := 3) rfl rfl (by decide) rfl (fun ls hl => ?_)
            refine lv_goto (tgt := 4) hx hb dX1_passing_32 (by decide) ?_
            exact ih l1 (l2 + (1 : Int32)) (l3 + (1 : Int32)) rs H locs ls h (lv_sub hl [2, 3, 1, 0] rfl) hP hD hS K
  obtain ⟨q7, hq7, h⟩ := bd_some h
  refine L4_5 FU p0 (0 : Int32) (0 : Int32) q7 H locs ls hq7 (lv_sub hl [2, 3, 1, 0] rfl) hP hD hS (fun H locs ls hl hP hD hS => ?_)
  refine lv_iload_n hx hb dX1_passing_35 rfl (lv_at hl 2 rfl) ?_
  have h0 := Option.some.inj h
  subst h0
  exact W.iret hx hb hr (fun t ht hW => ⟨⟨_, (), rfl, rfl, QW_mk hP hK hD ht hW⟩, hS.F ht⟩) hS.2.2 dX1_passing_36
