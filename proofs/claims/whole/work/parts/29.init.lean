theorem newcy {D : va_G} {cl : List vw_C} {cy cA : ClassId} {s : State} (h : va_K D cl ([(cy, .int)] ++ [(cA, .int)]) s) : cA = cy := by
  have h0 := (h.2 0 (cy, .int) rfl).2
  have h1 := (h.2 1 (cA, .int) rfl).2
  have h0' : s.vm.findClass ("[" ++ (FieldType.int).toString) = some cy := h0
  have h1' : s.vm.findClass ("[" ++ (FieldType.int).toString) = some cA := h1
  exact Option.some.inj (h1'.symm.trans h0')
set_option maxHeartbeats 4000000 in
set_option maxRecDepth 100000 in
theorem c_X2_init (l : Launch) (dC : Nat → ClassId) (dI : Nat → Nat → Nat) (cy : ClassId) (h0 sz : Nat) : Met l yX2_init wsX2_init ({ frames := 1, cells := 1, slots := 8, locals := 12 }) (va_Pc [.ref h0] (PW (dC, dI) cy sz [(h0, .inr (2, [.null, .int 0]))])) (va_Qv (fun (_ : Nat → Nat) => True) (fun (u : Nat → Nat) (t : State) => QW (dC, dI) cy (va_A [(h0, .inr (2, [.null, .int 0]))] sz) [(h0, .inr (2, [.ref (u 0), .int (8 : Int32)])), (u 0, .inl (cy, 8, .inl (fun _ => 0)))] () t) (va_A [(h0, .inr (2, [.null, .int 0]))] sz)) 1 8 (va_A [(h0, .inr (2, [.null, .int 0]))] sz) := by
  refine Met.ofW (cc := cX2_init) (maxL := 1) (ret := none) (by decide) rfl ?_
  intro p e s m args below meth c s₁ B hml hv
  obtain ⟨rfl, hsz, hP, hK, hD0, hN⟩ := hv
  have hx := B.exec
  have hb := B.bytes
  have hr := B.returns
  have hts := atoms_spec (ws := wsX2_init) B.pre
  have hown : s.vm.findClass RX2 = some m.cls := findClass_of_methodNamed B.named
  have hlocks := B.notSynchronized
  have hin : meth.name = "<init>" := (name_of_methodNamed B.named B.method).1
  subst hsz
  have hD := hD0.self (sz := s.heap.size)
  clear hD0
  generalize hAe : va_A [(h0, .inr (2, [.null, .int 0]))] s.heap.size = A at hD ⊢
  have hA : ∀ q : Nat, s.heap.size ≤ q → A q := fun q h => by rw [← hAe]; exact Or.inr h
  have hS : va_S A s.heap s.heap [] := va_S.rf
  replace hP : va_P (dC, dI) vwCl [(h0, .inr (2, [.null, .int 0]))] s.heap := hP
  have hl := lv_entry ([.ref h0]) (n := 1) (Nat.le_of_ble_eq_true rfl)
  rw [lg_entry_eq]
  generalize (lg_sl ([.ref h0]) ++ List.replicate (1 - (lg_sl ([.ref h0])).length) Slot.unset).toArray = ls at hl ⊢
  replace hl : lv_has ls 1 [(0, .ref h0)] := hl
  refine lv_aload_n hx hb dX2_init_0 rfl (lv_at hl 0 rfl) ?_
  refine W.objInit hx hb hown (hts (.methodLink RX2 3 objectInit) (by decide +kernel)) (hts (.instanceMethod objectInit) (by decide +kernel)) (hts (.code objectInit ⟨#[0xb1]⟩ 1 none) (by decide +kernel)) rfl (by rw [hml]; exact hl.1) rfl dX2_init_1 (Nat.le_of_ble_eq_true rfl) (Nat.le_of_ble_eq_true rfl) ?_
  refine W.eq (g2 := F0 m 4 ls []) rfl ?_
  refine lv_aload_n hx hb dX2_init_4 rfl (lv_at hl 0 rfl) ?_
  refine lv_bipush (v := (8 : Int32)) hx hb dX2_init_5 (by decide) ?_
  refine va_newa (atype := .int) (ty := .int) (N' := 8) (a0 := (8, .inl (fun _ => 0))) hx hb (hts (.arrayClass .int) (by decide +kernel)) rfl hK hP hD hS hA (fun _ => rfl) (by decide) (by decide) (by decide) (Nat.le_of_ble_eq_true rfl) (Nat.le_of_ble_eq_true rfl) dX2_init_7 (fun q0 cA H hK2 hP hD hS => ?_)
  have ecA := (newcy hK2).symm
  subst ecA
  clear hK2
  replace hP : va_P (dC, dI) vwCl [(h0, .inr (2, [.null, .int 0])), (q0, .inl (cy, 8, .inl (fun _ => 0)))] H := hP
  replace hD : va_D A [(h0, .inr (2, [.null, .int 0])), (q0, .inl (cy, 8, .inl (fun _ => 0)))] := hD
  refine W.widen (k := 1) (n := 8) (by omega) (by omega) ?_
  refine va_putF (D := (dC, dI)) (ci := 2) (v := .ref q0) (ty := .array .int) (C := RX2) (T := TX2) (N := 2) hx hb hts (by decide +kernel) tyX2 tyX2_ok nmX2 hown hK hP hD hS 0 rfl rfl 0 (by decide) (hts (.fieldLink RX2 9 "FewLooks$Row" "digits" "[I") (by decide +kernel)) (fun _ h9 => h9) rfl hin rfl (by decide +kernel) rfl rfl (Nat.le_of_ble_eq_true rfl) dX2_init_9 (fun H locs hP hD hS => ?_)
  replace hP : va_P (dC, dI) vwCl [(h0, .inr (2, [.ref q0, .int 0])), (q0, .inl (cy, 8, .inl (fun _ => 0)))] H := hP
  replace hD : va_D A [(h0, .inr (2, [.ref q0, .int 0])), (q0, .inl (cy, 8, .inl (fun _ => 0)))] := hD
  refine lv_aload_n hx hb dX2_init_12 rfl (lv_at hl 0 rfl) ?_
  refine lv_bipush (v := (8 : Int32)) hx hb dX2_init_13 (by decide) ?_
  refine va_put (D := (dC, dI)) (ci := 2) (v := .int (8 : Int32)) (ty := .int) (C := RX2) (T := TX2) (N := 2) hx hb hts (by decide +kernel) tyX2 tyX2_ok nmX2 hown hK hP hD hS 0 rfl rfl 1 (by decide) (hts (.fieldLink RX2 15 "FewLooks$Row" "size" "I") (by decide +kernel)) (fun _ h9 => h9) rfl (by decide +kernel) rfl rfl (Nat.le_of_ble_eq_true rfl) dX2_init_15 (fun H locs hP hD hS => ?_)
  replace hP : va_P (dC, dI) vwCl [(h0, .inr (2, [.ref q0, .int (8 : Int32)])), (q0, .inl (cy, 8, .inl (fun _ => 0)))] H := hP
  replace hD : va_D A [(h0, .inr (2, [.ref q0, .int (8 : Int32)])), (q0, .inl (cy, 8, .inl (fun _ => 0)))] := hD
  replace hP := hP.sub (ws' := [(h0, .inr (2, [.ref q0, .int (8 : Int32)])), (q0, .inl (cy, 8, .inl (fun _ => 0)))]) [0, 1] rfl
  replace hD := hD.sub (ws' := [(h0, .inr (2, [.ref q0, .int (8 : Int32)])), (q0, .inl (cy, 8, .inl (fun _ => 0)))]) [0, 1] (by decide) rfl
  refine W.widen (k := 1) (n := 8) (Nat.le_of_ble_eq_true rfl) (Nat.le_of_ble_eq_true rfl) ?_
  exact W.vret hx hb hr (fun t ht hW => ⟨⟨(fun k => [q0].getD k 0), rfl, trivial, QW_mk hP hK hD ht hW⟩, hS.F ht⟩) hS.2.2 dX2_init_18

set_option maxHeartbeats 4000000 in
set_option maxRecDepth 100000 in
theorem c_X3_init (l : Launch) (dC : Nat → ClassId) (dI : Nat → Nat → Nat) (cy : ClassId) (h0 sz : Nat) : Met l yX3_init wsX3_init ({ frames := 1, cells := 0, slots := 0, locals := 12 }) (va_Pc [.ref h0] (PW (dC, dI) cy sz [(h0, .inr (3, [.int 0]))])) (va_Qv (fun (_ : Nat → Nat) => True) (fun (u : Nat → Nat) (t : State) => QW (dC, dI) cy (va_A [(h0, .inr (3, [.int 0]))] sz) [(h0, .inr (3, [.int (0 : Int32)]))] () t) (va_A [(h0, .inr (3, [.int 0]))] sz)) 0 0 (va_A [(h0, .inr (3, [.int 0]))] sz) := by
  refine Met.ofW (cc := cX3_init) (maxL := 1) (ret := none) (by decide) rfl ?_
  intro p e s m args below meth c s₁ B hml hv
  obtain ⟨rfl, hsz, hP, hK, hD0, hN⟩ := hv
  have hx := B.exec
  have hb := B.bytes
  have hr := B.returns
  have hts := atoms_spec (ws := wsX3_init) B.pre
  have hown : s.vm.findClass RX3 = some m.cls := findClass_of_methodNamed B.named
  have hlocks := B.notSynchronized
  have hin : meth.name = "<init>" := (name_of_methodNamed B.named B.method).1
  subst hsz
  have hD := hD0.self (sz := s.heap.size)
  clear hD0
  generalize hAe : va_A [(h0, .inr (3, [.int 0]))] s.heap.size = A at hD ⊢
  have hA : ∀ q : Nat, s.heap.size ≤ q → A q := fun q h => by rw [← hAe]; exact Or.inr h
  have hS : va_S A s.heap s.heap [] := va_S.rf
  replace hP : va_P (dC, dI) vwCl [(h0, .inr (3, [.int 0]))] s.heap := hP
  have hl := lv_entry ([.ref h0]) (n := 1) (Nat.le_of_ble_eq_true rfl)
  rw [lg_entry_eq]
  generalize (lg_sl ([.ref h0]) ++ List.replicate (1 - (lg_sl ([.ref h0])).length) Slot.unset).toArray = ls at hl ⊢
  replace hl : lv_has ls 1 [(0, .ref h0)] := hl
  refine lv_aload_n hx hb dX3_init_0 rfl (lv_at hl 0 rfl) ?_
  refine W.objInit hx hb hown (hts (.methodLink RX3 3 objectInit) (by decide +kernel)) (hts (.instanceMethod objectInit) (by decide +kernel)) (hts (.code objectInit ⟨#[0xb1]⟩ 1 none) (by decide +kernel)) rfl (by rw [hml]; exact hl.1) rfl dX3_init_1 (Nat.le_of_ble_eq_true rfl) (Nat.le_of_ble_eq_true rfl) ?_
  refine W.eq (g2 := F0 m 4 ls []) rfl ?_
  refine lv_aload_n hx hb dX3_init_4 rfl (lv_at hl 0 rfl) ?_
  refine lv_iconst (v := (0 : Int32)) hx hb dX3_init_5 (by decide) ?_
  refine va_put (D := (dC, dI)) (ci := 3) (v := .int (0 : Int32)) (ty := .int) (C := RX3) (T := TX3) (N := 1) hx hb hts (by decide +kernel) tyX3 tyX3_ok nmX3 hown hK hP hD hS 0 rfl rfl 0 (by decide) (hts (.fieldLink RX3 9 "FewLooks$Table" "bits" "I") (by decide +kernel)) (fun _ h9 => h9) rfl (by decide +kernel) rfl rfl (Nat.le_of_ble_eq_true rfl) dX3_init_6 (fun H locs hP hD hS => ?_)
  replace hP : va_P (dC, dI) vwCl [(h0, .inr (3, [.int (0 : Int32)]))] H := hP
  replace hD : va_D A [(h0, .inr (3, [.int (0 : Int32)]))] := hD
  replace hP := hP.sub (ws' := [(h0, .inr (3, [.int (0 : Int32)]))]) [0] rfl
  replace hD := hD.sub (ws' := [(h0, .inr (3, [.int (0 : Int32)]))]) [0] (by decide) rfl
  refine W.widen (k := 0) (n := 0) (Nat.le_of_ble_eq_true rfl) (Nat.le_of_ble_eq_true rfl) ?_
  exact W.vret hx hb hr (fun t ht hW => ⟨⟨(fun k => [].getD k 0), rfl, trivial, QW_mk hP hK hD ht hW⟩, hS.F ht⟩) hS.2.2 dX3_init_9

set_option maxHeartbeats 4000000 in
set_option maxRecDepth 100000 in
theorem c_X1_init (l : Launch) (dC : Nat → ClassId) (dI : Nat → Nat → Nat) (cy : ClassId) (h0 sz : Nat) : Met l yX1_init wsX1_init ({ frames := 1, cells := 1, slots := 6, locals := 12 }) (va_Pc [.ref h0] (PW (dC, dI) cy sz [(h0, .inr (1, [.null]))])) (va_Qv (fun (_ : Nat → Nat) => True) (fun (u : Nat → Nat) (t : State) => QW (dC, dI) cy (va_A [(h0, .inr (1, [.null]))] sz) [(h0, .inr (1, [.ref (u 0)])), (u 0, .inl (cy, 6, .inl (fun _ => 0)))] () t) (va_A [(h0, .inr (1, [.null]))] sz)) 1 6 (va_A [(h0, .inr (1, [.null]))] sz) := by
  refine Met.ofW (cc := cX1_init) (maxL := 1) (ret := none) (by decide) rfl ?_
  intro p e s m args below meth c s₁ B hml hv
  obtain ⟨rfl, hsz, hP, hK, hD0, hN⟩ := hv
  have hx := B.exec
  have hb := B.bytes
  have hr := B.returns
  have hts := atoms_spec (ws := wsX1_init) B.pre
  have hown : s.vm.findClass RX1 = some m.cls := findClass_of_methodNamed B.named
  have hlocks := B.notSynchronized
  have hin : meth.name = "<init>" := (name_of_methodNamed B.named B.method).1
  subst hsz
  have hD := hD0.self (sz := s.heap.size)
  clear hD0
  generalize hAe : va_A [(h0, .inr (1, [.null]))] s.heap.size = A at hD ⊢
  have hA : ∀ q : Nat, s.heap.size ≤ q → A q := fun q h => by rw [← hAe]; exact Or.inr h
  have hS : va_S A s.heap s.heap [] := va_S.rf
  replace hP : va_P (dC, dI) vwCl [(h0, .inr (1, [.null]))] s.heap := hP
  have hl := lv_entry ([.ref h0]) (n := 1) (Nat.le_of_ble_eq_true rfl)
  rw [lg_entry_eq]
  generalize (lg_sl ([.ref h0]) ++ List.replicate (1 - (lg_sl ([.ref h0])).length) Slot.unset).toArray = ls at hl ⊢
  replace hl : lv_has ls 1 [(0, .ref h0)] := hl
  refine lv_aload_n hx hb dX1_init_0 rfl (lv_at hl 0 rfl) ?_
  refine W.objInit hx hb hown (hts (.methodLink RX1 3 objectInit) (by decide +kernel)) (hts (.instanceMethod objectInit) (by decide +kernel)) (hts (.code objectInit ⟨#[0xb1]⟩ 1 none) (by decide +kernel)) rfl (by rw [hml]; exact hl.1) rfl dX1_init_1 (Nat.le_of_ble_eq_true rfl) (Nat.le_of_ble_eq_true rfl) ?_
  refine W.eq (g2 := F0 m 4 ls []) rfl ?_
  refine lv_aload_n hx hb dX1_init_4 rfl (lv_at hl 0 rfl) ?_
  refine lv_bipush (v := (6 : Int32)) hx hb dX1_init_5 (by decide) ?_
  refine va_newa (atype := .int) (ty := .int) (N' := 6) (a0 := (6, .inl (fun _ => 0))) hx hb (hts (.arrayClass .int) (by decide +kernel)) rfl hK hP hD hS hA (fun _ => rfl) (by decide) (by decide) (by decide) (Nat.le_of_ble_eq_true rfl) (Nat.le_of_ble_eq_true rfl) dX1_init_7 (fun q0 cA H hK2 hP hD hS => ?_)
  have ecA := (newcy hK2).symm
  subst ecA
  clear hK2
  replace hP : va_P (dC, dI) vwCl [(h0, .inr (1, [.null])), (q0, .inl (cy, 6, .inl (fun _ => 0)))] H := hP
  replace hD : va_D A [(h0, .inr (1, [.null])), (q0, .inl (cy, 6, .inl (fun _ => 0)))] := hD
  refine W.widen (k := 1) (n := 6) (by omega) (by omega) ?_
  refine va_putF (D := (dC, dI)) (ci := 1) (v := .ref q0) (ty := .array .int) (C := RX1) (T := TX1) (N := 1) hx hb hts (by decide +kernel) tyX1 tyX1_ok nmX1 hown hK hP hD hS 0 rfl rfl 0 (by decide) (hts (.fieldLink RX1 9 "FewLooks$Net" "joins" "[I") (by decide +kernel)) (fun _ h9 => h9) rfl hin rfl (by decide +kernel) rfl rfl (Nat.le_of_ble_eq_true rfl) dX1_init_9 (fun H locs hP hD hS => ?_)
  replace hP : va_P (dC, dI) vwCl [(h0, .inr (1, [.ref q0])), (q0, .inl (cy, 6, .inl (fun _ => 0)))] H := hP
  replace hD : va_D A [(h0, .inr (1, [.ref q0])), (q0, .inl (cy, 6, .inl (fun _ => 0)))] := hD
  replace hP := hP.sub (ws' := [(h0, .inr (1, [.ref q0])), (q0, .inl (cy, 6, .inl (fun _ => 0)))]) [0, 1] rfl
  replace hD := hD.sub (ws' := [(h0, .inr (1, [.ref q0])), (q0, .inl (cy, 6, .inl (fun _ => 0)))]) [0, 1] (by decide) rfl
  refine W.widen (k := 1) (n := 6) (Nat.le_of_ble_eq_true rfl) (Nat.le_of_ble_eq_true rfl) ?_
  exact W.vret hx hb hr (fun t ht hW => ⟨⟨(fun k => [q0].getD k 0), rfl, trivial, QW_mk hP hK hD ht hW⟩, hS.F ht⟩) hS.2.2 dX1_init_12

set_option maxHeartbeats 4000000 in
set_option maxRecDepth 100000 in
theorem c_X0_init (l : Launch) (dC : Nat → ClassId) (dI : Nat → Nat → Nat) (cy : ClassId) (h0 sz : Nat) : Met l yX0_init wsX0_init ({ frames := 2, cells := 5, slots := 56, locals := 32 }) (va_Pc [.ref h0] (PW (dC, dI) cy sz [(h0, .inr (0, [.null, .null, .null]))])) (va_Qv (fun (_ : Nat → Nat) => True) (fun (u : Nat → Nat) (t : State) => QW (dC, dI) cy (va_A [(h0, .inr (0, [.null, .null, .null]))] sz) [(h0, .inr (0, [.ref (u 0), .ref (u 2), .ref (u 4)])), (u 0, .inr (2, [.ref (u 1), .int (8 : Int32)])), (u 1, .inl (cy, 8, .inl (fun _ => 0))), (u 2, .inr (2, [.ref (u 3), .int (8 : Int32)])), (u 3, .inl (cy, 8, .inl (fun _ => 0))), (u 4, .inl (cy, 36, .inl (fun _ => 0)))] () t) (va_A [(h0, .inr (0, [.null, .null, .null]))] sz)) 5 56 (va_A [(h0, .inr (0, [.null, .null, .null]))] sz) := by
  refine Met.ofW (cc := cX0_init) (maxL := 1) (ret := none) (by decide) rfl ?_
  intro p e s m args below meth c s₁ B hml hv
  obtain ⟨rfl, hsz, hP, hK, hD0, hN⟩ := hv
  have hx := B.exec
  have hb := B.bytes
  have hr := B.returns
  have hts := atoms_spec (ws := wsX0_init) B.pre
  have hown : s.vm.findClass RX0 = some m.cls := findClass_of_methodNamed B.named
  have hlocks := B.notSynchronized
  have hin : meth.name = "<init>" := (name_of_methodNamed B.named B.method).1
  subst hsz
  have hD := hD0.self (sz := s.heap.size)
  clear hD0
  generalize hAe : va_A [(h0, .inr (0, [.null, .null, .null]))] s.heap.size = A at hD ⊢
  have hA : ∀ q : Nat, s.heap.size ≤ q → A q := fun q h => by rw [← hAe]; exact Or.inr h
  have hS : va_S A s.heap s.heap [] := va_S.rf
  replace hP : va_P (dC, dI) vwCl [(h0, .inr (0, [.null, .null, .null]))] s.heap := hP
  have hl := lv_entry ([.ref h0]) (n := 1) (Nat.le_of_ble_eq_true rfl)
  rw [lg_entry_eq]
  generalize (lg_sl ([.ref h0]) ++ List.replicate (1 - (lg_sl ([.ref h0])).length) Slot.unset).toArray = ls at hl ⊢
  replace hl : lv_has ls 1 [(0, .ref h0)] := hl
  refine lv_aload_n hx hb dX0_init_0 rfl (lv_at hl 0 rfl) ?_
  refine W.objInit hx hb hown (hts (.methodLink RX0 3 objectInit) (by decide +kernel)) (hts (.instanceMethod objectInit) (by decide +kernel)) (hts (.code objectInit ⟨#[0xb1]⟩ 1 none) (by decide +kernel)) rfl (by rw [hml]; exact hl.1) rfl dX0_init_1 (Nat.le_of_ble_eq_true rfl) (Nat.le_of_ble_eq_true rfl) ?_
  refine W.eq (g2 := F0 m 4 ls []) rfl ?_
  refine lv_aload_n hx hb dX0_init_4 rfl (lv_at hl 0 rfl) ?_
  refine va_new (ci := 2) (fs := [.null, .int 0]) (C := RX2) (T := TX2) (N := 2) hx hb hts (by decide +kernel) tyX2 tyX2_ok hown (hts (.classLink RX0 9 RX2) (by decide +kernel)) (hts (.instantiable RX2 2) (by decide +kernel)) (hts (.initialized RX2) (by decide +kernel)) hK hP hD hS hA rfl (fun j hj => by rcases (show j = 0 ∨ j = 1 by omega) with rfl | rfl <;> rfl) (Nat.le_of_ble_eq_true rfl) (Nat.le_of_ble_eq_true rfl) dX0_init_5 (fun q0 H hP hD hS => ?_)
  replace hP : va_P (dC, dI) vwCl [(h0, .inr (0, [.null, .null, .null])), (q0, .inr (2, [.null, .int 0]))] H := hP
  replace hD : va_D A [(h0, .inr (0, [.null, .null, .null])), (q0, .inr (2, [.null, .int 0]))] := hD
  refine W.widen (k := 1) (n := 2) (by omega) (by omega) ?_
  refine lv_dup hx hb dX0_init_8 rfl ?_
  have hFc := va_free (wc := [(q0, .inr (2, [.null, .int 0]))]) hD hS hA [1] rfl
  refine va_callv (va_runIN (As := []) (rest := [.ref q0, .ref h0]) ⟨hx, hb, hml, hown, hts⟩ (c_X2_init l dC dI cy q0 H.size) ⟨va_cnB 0 hts gX0_init_X2_init_n11 rfl rfl rfl hN.2.2.2.2.2.2.2.2.2.2 (hts (.initialized RX2) (by decide +kernel)) (by decide +kernel) ⟨Nat.le_of_ble_eq_true rfl, Nat.le_of_ble_eq_true rfl⟩, rfl, hts (.instanceMethod yX2_init) (by decide +kernel)⟩ ⟨PW_fb, PW_pre (hP.sub (ws' := [(q0, .inr (2, [.null, .int 0]))]) [1] rfl) hK (hD.sub [1] (by decide) rfl) hN⟩ rfl rfl hl.1 rfl (lv_room (Nat.le_of_ble_eq_true rfl)) dX0_init_9 ⟨Nat.le_of_ble_eq_true rfl, Nat.le_of_ble_eq_true rfl⟩) hS (fun q _ h => hFc q h) hFc (fun u t H locs ht hvm hw hB hz1 hk1 hS => ?_)
  obtain ⟨q0_0, e_q0_0⟩ : ∃ z, z = u 0 := ⟨_, rfl⟩
  rw [← e_q0_0] at hB
  obtain ⟨hP, hD⟩ := jn (wr := [(h0, .inr (0, [.null, .null, .null]))]) (w1 := [(q0, .inr (2, [.ref q0_0, .int (8 : Int32)])), (q0_0, .inl (cy, 8, .inl (fun _ => 0)))]) (ws' := [(h0, .inr (0, [.null, .null, .null])), (q0, .inr (2, [.ref q0_0, .int (8 : Int32)])), (q0_0, .inl (cy, 8, .inl (fun _ => 0)))]) hP hD [1] [0] rfl rfl (by decide) (by decide) hk1 hFc hB ht [0, 1, 2] rfl (by decide) rfl
  clear hFc hB hk1 hz1 hvm hw
  refine W.widen (k := 2) (n := 10) (by omega) (by omega) ?_
  refine va_putF (D := (dC, dI)) (ci := 0) (v := .ref q0) (ty := .object "FewLooks$Row") (C := RX0) (T := TX0) (N := 3) hx hb hts (by decide +kernel) tyX0 tyX0_ok nmX0 hown hK hP hD hS 0 rfl rfl 0 (by decide) (hts (.fieldLink RX0 12 "FewLooks$Mender" "near" "LFewLooks$Row;") (by decide +kernel)) (fun _ h9 => h9) rfl hin rfl (by decide +kernel) rfl rfl (Nat.le_of_ble_eq_true rfl) dX0_init_12 (fun H locs hP hD hS => ?_)
  replace hP : va_P (dC, dI) vwCl [(h0, .inr (0, [.ref q0, .null, .null])), (q0, .inr (2, [.ref q0_0, .int (8 : Int32)])), (q0_0, .inl (cy, 8, .inl (fun _ => 0)))] H := hP
  replace hD : va_D A [(h0, .inr (0, [.ref q0, .null, .null])), (q0, .inr (2, [.ref q0_0, .int (8 : Int32)])), (q0_0, .inl (cy, 8, .inl (fun _ => 0)))] := hD
  refine lv_aload_n hx hb dX0_init_15 rfl (lv_at hl 0 rfl) ?_
  refine va_new (ci := 2) (fs := [.null, .int 0]) (C := RX2) (T := TX2) (N := 2) hx hb hts (by decide +kernel) tyX2 tyX2_ok hown (hts (.classLink RX0 9 RX2) (by decide +kernel)) (hts (.instantiable RX2 2) (by decide +kernel)) (hts (.initialized RX2) (by decide +kernel)) hK hP hD hS hA rfl (fun j hj => by rcases (show j = 0 ∨ j = 1 by omega) with rfl | rfl <;> rfl) (Nat.le_of_ble_eq_true rfl) (Nat.le_of_ble_eq_true rfl) dX0_init_16 (fun q1 H hP hD hS => ?_)
  replace hP : va_P (dC, dI) vwCl [(h0, .inr (0, [.ref q0, .null, .null])), (q0, .inr (2, [.ref q0_0, .int (8 : Int32)])), (q0_0, .inl (cy, 8, .inl (fun _ => 0))), (q1, .inr (2, [.null, .int 0]))] H := hP
  replace hD : va_D A [(h0, .inr (0, [.ref q0, .null, .null])), (q0, .inr (2, [.ref q0_0, .int (8 : Int32)])), (q0_0, .inl (cy, 8, .inl (fun _ => 0))), (q1, .inr (2, [.null, .int 0]))] := hD
  refine W.widen (k := 3) (n := 12) (by omega) (by omega) ?_
  refine lv_dup hx hb dX0_init_19 rfl ?_
  have hFc := va_free (wc := [(q1, .inr (2, [.null, .int 0]))]) hD hS hA [3] rfl
  refine va_callv (va_runIN (As := []) (rest := [.ref q1, .ref h0]) ⟨hx, hb, hml, hown, hts⟩ (c_X2_init l dC dI cy q1 H.size) ⟨va_cnB 0 hts gX0_init_X2_init_n11 rfl rfl rfl hN.2.2.2.2.2.2.2.2.2.2 (hts (.initialized RX2) (by decide +kernel)) (by decide +kernel) ⟨Nat.le_of_ble_eq_true rfl, Nat.le_of_ble_eq_true rfl⟩, rfl, hts (.instanceMethod yX2_init) (by decide +kernel)⟩ ⟨PW_fb, PW_pre (hP.sub (ws' := [(q1, .inr (2, [.null, .int 0]))]) [3] rfl) hK (hD.sub [3] (by decide) rfl) hN⟩ rfl rfl hl.1 rfl (lv_room (Nat.le_of_ble_eq_true rfl)) dX0_init_20 ⟨Nat.le_of_ble_eq_true rfl, Nat.le_of_ble_eq_true rfl⟩) hS (fun q _ h => hFc q h) hFc (fun u t H locs ht hvm hw hB hz1 hk1 hS => ?_)
  obtain ⟨q1_0, e_q1_0⟩ : ∃ z, z = u 0 := ⟨_, rfl⟩
  rw [← e_q1_0] at hB
  obtain ⟨hP, hD⟩ := jn (wr := [(h0, .inr (0, [.ref q0, .null, .null])), (q0, .inr (2, [.ref q0_0, .int (8 : Int32)])), (q0_0, .inl (cy, 8, .inl (fun _ => 0)))]) (w1 := [(q1, .inr (2, [.ref q1_0, .int (8 : Int32)])), (q1_0, .inl (cy, 8, .inl (fun _ => 0)))]) (ws' := [(h0, .inr (0, [.ref q0, .null, .null])), (q0, .inr (2, [.ref q0_0, .int (8 : Int32)])), (q0_0, .inl (cy, 8, .inl (fun _ => 0))), (q1, .inr (2, [.ref q1_0, .int (8 : Int32)])), (q1_0, .inl (cy, 8, .inl (fun _ => 0)))]) hP hD [3] [0, 1, 2] rfl rfl (by decide) (by decide) hk1 hFc hB ht [0, 1, 2, 3, 4] rfl (by decide) rfl
  clear hFc hB hk1 hz1 hvm hw
  refine W.widen (k := 4) (n := 20) (by omega) (by omega) ?_
  refine va_putF (D := (dC, dI)) (ci := 0) (v := .ref q1) (ty := .object "FewLooks$Row") (C := RX0) (T := TX0) (N := 3) hx hb hts (by decide +kernel) tyX0 tyX0_ok nmX0 hown hK hP hD hS 0 rfl rfl 1 (by decide) (hts (.fieldLink RX0 18 "FewLooks$Mender" "guess" "LFewLooks$Row;") (by decide +kernel)) (fun _ h9 => h9) rfl hin rfl (by decide +kernel) rfl rfl (Nat.le_of_ble_eq_true rfl) dX0_init_23 (fun H locs hP hD hS => ?_)
  replace hP : va_P (dC, dI) vwCl [(h0, .inr (0, [.ref q0, .ref q1, .null])), (q0, .inr (2, [.ref q0_0, .int (8 : Int32)])), (q0_0, .inl (cy, 8, .inl (fun _ => 0))), (q1, .inr (2, [.ref q1_0, .int (8 : Int32)])), (q1_0, .inl (cy, 8, .inl (fun _ => 0)))] H := hP
  replace hD : va_D A [(h0, .inr (0, [.ref q0, .ref q1, .null])), (q0, .inr (2, [.ref q0_0, .int (8 : Int32)])), (q0_0, .inl (cy, 8, .inl (fun _ => 0))), (q1, .inr (2, [.ref q1_0, .int (8 : Int32)])), (q1_0, .inl (cy, 8, .inl (fun _ => 0)))] := hD
  refine lv_aload_n hx hb dX0_init_26 rfl (lv_at hl 0 rfl) ?_
  refine lv_bipush (v := (36 : Int32)) hx hb dX0_init_27 (by decide) ?_
  refine va_newa (atype := .int) (ty := .int) (N' := 36) (a0 := (36, .inl (fun _ => 0))) hx hb (hts (.arrayClass .int) (by decide +kernel)) rfl hK hP hD hS hA (fun _ => rfl) (by decide) (by decide) (by decide) (Nat.le_of_ble_eq_true rfl) (Nat.le_of_ble_eq_true rfl) dX0_init_29 (fun q2 cA H hK2 hP hD hS => ?_)
  have ecA := (newcy hK2).symm
  subst ecA
  clear hK2
  replace hP : va_P (dC, dI) vwCl [(h0, .inr (0, [.ref q0, .ref q1, .null])), (q0, .inr (2, [.ref q0_0, .int (8 : Int32)])), (q0_0, .inl (cy, 8, .inl (fun _ => 0))), (q1, .inr (2, [.ref q1_0, .int (8 : Int32)])), (q1_0, .inl (cy, 8, .inl (fun _ => 0))), (q2, .inl (cy, 36, .inl (fun _ => 0)))] H := hP
  replace hD : va_D A [(h0, .inr (0, [.ref q0, .ref q1, .null])), (q0, .inr (2, [.ref q0_0, .int (8 : Int32)])), (q0_0, .inl (cy, 8, .inl (fun _ => 0))), (q1, .inr (2, [.ref q1_0, .int (8 : Int32)])), (q1_0, .inl (cy, 8, .inl (fun _ => 0))), (q2, .inl (cy, 36, .inl (fun _ => 0)))] := hD
  refine W.widen (k := 5) (n := 56) (by omega) (by omega) ?_
  refine va_putF (D := (dC, dI)) (ci := 0) (v := .ref q2) (ty := .array .int) (C := RX0) (T := TX0) (N := 3) hx hb hts (by decide +kernel) tyX0 tyX0_ok nmX0 hown hK hP hD hS 0 rfl rfl 2 (by decide) (hts (.fieldLink RX0 21 "FewLooks$Mender" "costs" "[I") (by decide +kernel)) (fun _ h9 => h9) rfl hin rfl (by decide +kernel) rfl rfl (Nat.le_of_ble_eq_true rfl) dX0_init_31 (fun H locs hP hD hS => ?_)
  replace hP : va_P (dC, dI) vwCl [(h0, .inr (0, [.ref q0, .ref q1, .ref q2])), (q0, .inr (2, [.ref q0_0, .int (8 : Int32)])), (q0_0, .inl (cy, 8, .inl (fun _ => 0))), (q1, .inr (2, [.ref q1_0, .int (8 : Int32)])), (q1_0, .inl (cy, 8, .inl (fun _ => 0))), (q2, .inl (cy, 36, .inl (fun _ => 0)))] H := hP
  replace hD : va_D A [(h0, .inr (0, [.ref q0, .ref q1, .ref q2])), (q0, .inr (2, [.ref q0_0, .int (8 : Int32)])), (q0_0, .inl (cy, 8, .inl (fun _ => 0))), (q1, .inr (2, [.ref q1_0, .int (8 : Int32)])), (q1_0, .inl (cy, 8, .inl (fun _ => 0))), (q2, .inl (cy, 36, .inl (fun _ => 0)))] := hD
  replace hP := hP.sub (ws' := [(h0, .inr (0, [.ref q0, .ref q1, .ref q2])), (q0, .inr (2, [.ref q0_0, .int (8 : Int32)])), (q0_0, .inl (cy, 8, .inl (fun _ => 0))), (q1, .inr (2, [.ref q1_0, .int (8 : Int32)])), (q1_0, .inl (cy, 8, .inl (fun _ => 0))), (q2, .inl (cy, 36, .inl (fun _ => 0)))]) [0, 1, 2, 3, 4, 5] rfl
  replace hD := hD.sub (ws' := [(h0, .inr (0, [.ref q0, .ref q1, .ref q2])), (q0, .inr (2, [.ref q0_0, .int (8 : Int32)])), (q0_0, .inl (cy, 8, .inl (fun _ => 0))), (q1, .inr (2, [.ref q1_0, .int (8 : Int32)])), (q1_0, .inl (cy, 8, .inl (fun _ => 0))), (q2, .inl (cy, 36, .inl (fun _ => 0)))]) [0, 1, 2, 3, 4, 5] (by decide) rfl
  refine W.widen (k := 5) (n := 56) (Nat.le_of_ble_eq_true rfl) (Nat.le_of_ble_eq_true rfl) ?_
  exact W.vret hx hb hr (fun t ht hW => ⟨⟨(fun k => [q0, q0_0, q1, q1_0, q2].getD k 0), rfl, trivial, QW_mk hP hK hD ht hW⟩, hS.F ht⟩) hS.2.2 dX0_init_34

set_option maxHeartbeats 4000000 in
set_option maxRecDepth 100000 in
theorem c_X4_init (l : Launch) (dC : Nat → ClassId) (dI : Nat → Nat → Nat) (cy : ClassId) (h0 sz : Nat) : Met l yX4_init wsX4_init ({ frames := 3, cells := 13, slots := 87, locals := 52 }) (va_Pc [.ref h0] (PW (dC, dI) cy sz [(h0, .inr (4, [.null, .null, .null, .null, .null, .int 0]))])) (va_Qv (fun (_ : Nat → Nat) => True) (fun (u : Nat → Nat) (t : State) => QW (dC, dI) cy (va_A [(h0, .inr (4, [.null, .null, .null, .null, .null, .int 0]))] sz) [(h0, .inr (4, [.ref (u 0), .ref (u 2), .ref (u 4), .ref (u 10), .ref (u 11), .int (3 : Int32)])), (u 0, .inr (2, [.ref (u 1), .int (8 : Int32)])), (u 1, .inl (cy, 8, .inl (fun _ => 0))), (u 2, .inr (2, [.ref (u 3), .int (8 : Int32)])), (u 3, .inl (cy, 8, .inl (fun _ => 0))), (u 4, .inr (0, [.ref (u 5), .ref (u 7), .ref (u 9)])), (u 5, .inr (2, [.ref (u 6), .int (8 : Int32)])), (u 6, .inl (cy, 8, .inl (fun _ => 0))), (u 7, .inr (2, [.ref (u 8), .int (8 : Int32)])), (u 8, .inl (cy, 8, .inl (fun _ => 0))), (u 9, .inl (cy, 36, .inl (fun _ => 0))), (u 10, .inr (3, [.int (0 : Int32)])), (u 11, .inr (1, [.ref (u 12)])), (u 12, .inl (cy, 6, .inl (fun _ => 0)))] () t) (va_A [(h0, .inr (4, [.null, .null, .null, .null, .null, .int 0]))] sz)) 13 87 (va_A [(h0, .inr (4, [.null, .null, .null, .null, .null, .int 0]))] sz) := by
  refine Met.ofW (cc := cX4_init) (maxL := 1) (ret := none) (by decide) rfl ?_
  intro p e s m args below meth c s₁ B hml hv
  obtain ⟨rfl, hsz, hP, hK, hD0, hN⟩ := hv
  have hx := B.exec
  have hb := B.bytes
  have hr := B.returns
  have hts := atoms_spec (ws := wsX4_init) B.pre
  have hown : s.vm.findClass RX4 = some m.cls := findClass_of_methodNamed B.named
  have hlocks := B.notSynchronized
  have hin : meth.name = "<init>" := (name_of_methodNamed B.named B.method).1
  subst hsz
  have hD := hD0.self (sz := s.heap.size)
  clear hD0
  generalize hAe : va_A [(h0, .inr (4, [.null, .null, .null, .null, .null, .int 0]))] s.heap.size = A at hD ⊢
  have hA : ∀ q : Nat, s.heap.size ≤ q → A q := fun q h => by rw [← hAe]; exact Or.inr h
  have hS : va_S A s.heap s.heap [] := va_S.rf
  replace hP : va_P (dC, dI) vwCl [(h0, .inr (4, [.null, .null, .null, .null, .null, .int 0]))] s.heap := hP
  have hl := lv_entry ([.ref h0]) (n := 1) (Nat.le_of_ble_eq_true rfl)
  rw [lg_entry_eq]
  generalize (lg_sl ([.ref h0]) ++ List.replicate (1 - (lg_sl ([.ref h0])).length) Slot.unset).toArray = ls at hl ⊢
  replace hl : lv_has ls 1 [(0, .ref h0)] := hl
  refine lv_aload_n hx hb dX4_init_0 rfl (lv_at hl 0 rfl) ?_
  refine W.objInit hx hb hown (hts (.methodLink RX4 1 objectInit) (by decide +kernel)) (hts (.instanceMethod objectInit) (by decide +kernel)) (hts (.code objectInit ⟨#[0xb1]⟩ 1 none) (by decide +kernel)) rfl (by rw [hml]; exact hl.1) rfl dX4_init_1 (Nat.le_of_ble_eq_true rfl) (Nat.le_of_ble_eq_true rfl) ?_
  refine W.eq (g2 := F0 m 4 ls []) rfl ?_
  refine lv_aload_n hx hb dX4_init_4 rfl (lv_at hl 0 rfl) ?_
  refine va_new (ci := 2) (fs := [.null, .int 0]) (C := RX2) (T := TX2) (N := 2) hx hb hts (by decide +kernel) tyX2 tyX2_ok hown (hts (.classLink RX4 7 RX2) (by decide +kernel)) (hts (.instantiable RX2 2) (by decide +kernel)) (hts (.initialized RX2) (by decide +kernel)) hK hP hD hS hA rfl (fun j hj => by rcases (show j = 0 ∨ j = 1 by omega) with rfl | rfl <;> rfl) (Nat.le_of_ble_eq_true rfl) (Nat.le_of_ble_eq_true rfl) dX4_init_5 (fun q0 H hP hD hS => ?_)
  replace hP : va_P (dC, dI) vwCl [(h0, .inr (4, [.null, .null, .null, .null, .null, .int 0])), (q0, .inr (2, [.null, .int 0]))] H := hP
  replace hD : va_D A [(h0, .inr (4, [.null, .null, .null, .null, .null, .int 0])), (q0, .inr (2, [.null, .int 0]))] := hD
  refine W.widen (k := 1) (n := 2) (by omega) (by omega) ?_
  refine lv_dup hx hb dX4_init_8 rfl ?_
  have hFc := va_free (wc := [(q0, .inr (2, [.null, .int 0]))]) hD hS hA [1] rfl
  refine va_callv (va_runIN (As := []) (rest := [.ref q0, .ref h0]) ⟨hx, hb, hml, hown, hts⟩ (c_X2_init l dC dI cy q0 H.size) ⟨va_cnB 0 hts gX4_init_X2_init_n9 rfl rfl rfl hN.2.2.2.2.2.2.1 (hts (.initialized RX2) (by decide +kernel)) (by decide +kernel) ⟨Nat.le_of_ble_eq_true rfl, Nat.le_of_ble_eq_true rfl⟩, rfl, hts (.instanceMethod yX2_init) (by decide +kernel)⟩ ⟨PW_fb, PW_pre (hP.sub (ws' := [(q0, .inr (2, [.null, .int 0]))]) [1] rfl) hK (hD.sub [1] (by decide) rfl) hN⟩ rfl rfl hl.1 rfl (lv_room (Nat.le_of_ble_eq_true rfl)) dX4_init_9 ⟨Nat.le_of_ble_eq_true rfl, Nat.le_of_ble_eq_true rfl⟩) hS (fun q _ h => hFc q h) hFc (fun u t H locs ht hvm hw hB hz1 hk1 hS => ?_)
  obtain ⟨q0_0, e_q0_0⟩ : ∃ z, z = u 0 := ⟨_, rfl⟩
  rw [← e_q0_0] at hB
  obtain ⟨hP, hD⟩ := jn (wr := [(h0, .inr (4, [.null, .null, .null, .null, .null, .int 0]))]) (w1 := [(q0, .inr (2, [.ref q0_0, .int (8 : Int32)])), (q0_0, .inl (cy, 8, .inl (fun _ => 0)))]) (ws' := [(h0, .inr (4, [.null, .null, .null, .null, .null, .int 0])), (q0, .inr (2, [.ref q0_0, .int (8 : Int32)])), (q0_0, .inl (cy, 8, .inl (fun _ => 0)))]) hP hD [1] [0] rfl rfl (by decide) (by decide) hk1 hFc hB ht [0, 1, 2] rfl (by decide) rfl
  clear hFc hB hk1 hz1 hvm hw
  refine W.widen (k := 2) (n := 10) (by omega) (by omega) ?_
  refine va_putF (D := (dC, dI)) (ci := 4) (v := .ref q0) (ty := .object "FewLooks$Row") (C := RX4) (T := TX4) (N := 6) hx hb hts (by decide +kernel) tyX4 tyX4_ok nmX4 hown hK hP hD hS 0 rfl rfl 0 (by decide) (hts (.fieldLink RX4 10 "FewLooks" "row" "LFewLooks$Row;") (by decide +kernel)) (fun _ h9 => h9) rfl hin rfl (by decide +kernel) rfl rfl (Nat.le_of_ble_eq_true rfl) dX4_init_12 (fun H locs hP hD hS => ?_)
  replace hP : va_P (dC, dI) vwCl [(h0, .inr (4, [.ref q0, .null, .null, .null, .null, .int 0])), (q0, .inr (2, [.ref q0_0, .int (8 : Int32)])), (q0_0, .inl (cy, 8, .inl (fun _ => 0)))] H := hP
  replace hD : va_D A [(h0, .inr (4, [.ref q0, .null, .null, .null, .null, .int 0])), (q0, .inr (2, [.ref q0_0, .int (8 : Int32)])), (q0_0, .inl (cy, 8, .inl (fun _ => 0)))] := hD
  refine lv_aload_n hx hb dX4_init_15 rfl (lv_at hl 0 rfl) ?_
  refine va_new (ci := 2) (fs := [.null, .int 0]) (C := RX2) (T := TX2) (N := 2) hx hb hts (by decide +kernel) tyX2 tyX2_ok hown (hts (.classLink RX4 7 RX2) (by decide +kernel)) (hts (.instantiable RX2 2) (by decide +kernel)) (hts (.initialized RX2) (by decide +kernel)) hK hP hD hS hA rfl (fun j hj => by rcases (show j = 0 ∨ j = 1 by omega) with rfl | rfl <;> rfl) (Nat.le_of_ble_eq_true rfl) (Nat.le_of_ble_eq_true rfl) dX4_init_16 (fun q1 H hP hD hS => ?_)
  replace hP : va_P (dC, dI) vwCl [(h0, .inr (4, [.ref q0, .null, .null, .null, .null, .int 0])), (q0, .inr (2, [.ref q0_0, .int (8 : Int32)])), (q0_0, .inl (cy, 8, .inl (fun _ => 0))), (q1, .inr (2, [.null, .int 0]))] H := hP
  replace hD : va_D A [(h0, .inr (4, [.ref q0, .null, .null, .null, .null, .int 0])), (q0, .inr (2, [.ref q0_0, .int (8 : Int32)])), (q0_0, .inl (cy, 8, .inl (fun _ => 0))), (q1, .inr (2, [.null, .int 0]))] := hD
  refine W.widen (k := 3) (n := 12) (by omega) (by omega) ?_
  refine lv_dup hx hb dX4_init_19 rfl ?_
  have hFc := va_free (wc := [(q1, .inr (2, [.null, .int 0]))]) hD hS hA [3] rfl
  refine va_callv (va_runIN (As := []) (rest := [.ref q1, .ref h0]) ⟨hx, hb, hml, hown, hts⟩ (c_X2_init l dC dI cy q1 H.size) ⟨va_cnB 0 hts gX4_init_X2_init_n9 rfl rfl rfl hN.2.2.2.2.2.2.1 (hts (.initialized RX2) (by decide +kernel)) (by decide +kernel) ⟨Nat.le_of_ble_eq_true rfl, Nat.le_of_ble_eq_true rfl⟩, rfl, hts (.instanceMethod yX2_init) (by decide +kernel)⟩ ⟨PW_fb, PW_pre (hP.sub (ws' := [(q1, .inr (2, [.null, .int 0]))]) [3] rfl) hK (hD.sub [3] (by decide) rfl) hN⟩ rfl rfl hl.1 rfl (lv_room (Nat.le_of_ble_eq_true rfl)) dX4_init_20 ⟨Nat.le_of_ble_eq_true rfl, Nat.le_of_ble_eq_true rfl⟩) hS (fun q _ h => hFc q h) hFc (fun u t H locs ht hvm hw hB hz1 hk1 hS => ?_)
  obtain ⟨q1_0, e_q1_0⟩ : ∃ z, z = u 0 := ⟨_, rfl⟩
  rw [← e_q1_0] at hB
  obtain ⟨hP, hD⟩ := jn (wr := [(h0, .inr (4, [.ref q0, .null, .null, .null, .null, .int 0])), (q0, .inr (2, [.ref q0_0, .int (8 : Int32)])), (q0_0, .inl (cy, 8, .inl (fun _ => 0)))]) (w1 := [(q1, .inr (2, [.ref q1_0, .int (8 : Int32)])), (q1_0, .inl (cy, 8, .inl (fun _ => 0)))]) (ws' := [(h0, .inr (4, [.ref q0, .null, .null, .null, .null, .int 0])), (q0, .inr (2, [.ref q0_0, .int (8 : Int32)])), (q0_0, .inl (cy, 8, .inl (fun _ => 0))), (q1, .inr (2, [.ref q1_0, .int (8 : Int32)])), (q1_0, .inl (cy, 8, .inl (fun _ => 0)))]) hP hD [3] [0, 1, 2] rfl rfl (by decide) (by decide) hk1 hFc hB ht [0, 1, 2, 3, 4] rfl (by decide) rfl
  clear hFc hB hk1 hz1 hvm hw
  refine W.widen (k := 4) (n := 20) (by omega) (by omega) ?_
  refine va_putF (D := (dC, dI)) (ci := 4) (v := .ref q1) (ty := .object "FewLooks$Row") (C := RX4) (T := TX4) (N := 6) hx hb hts (by decide +kernel) tyX4 tyX4_ok nmX4 hown hK hP hD hS 0 rfl rfl 1 (by decide) (hts (.fieldLink RX4 16 "FewLooks" "trial" "LFewLooks$Row;") (by decide +kernel)) (fun _ h9 => h9) rfl hin rfl (by decide +kernel) rfl rfl (Nat.le_of_ble_eq_true rfl) dX4_init_23 (fun H locs hP hD hS => ?_)
  replace hP : va_P (dC, dI) vwCl [(h0, .inr (4, [.ref q0, .ref q1, .null, .null, .null, .int 0])), (q0, .inr (2, [.ref q0_0, .int (8 : Int32)])), (q0_0, .inl (cy, 8, .inl (fun _ => 0))), (q1, .inr (2, [.ref q1_0, .int (8 : Int32)])), (q1_0, .inl (cy, 8, .inl (fun _ => 0)))] H := hP
  replace hD : va_D A [(h0, .inr (4, [.ref q0, .ref q1, .null, .null, .null, .int 0])), (q0, .inr (2, [.ref q0_0, .int (8 : Int32)])), (q0_0, .inl (cy, 8, .inl (fun _ => 0))), (q1, .inr (2, [.ref q1_0, .int (8 : Int32)])), (q1_0, .inl (cy, 8, .inl (fun _ => 0)))] := hD
  refine lv_aload_n hx hb dX4_init_26 rfl (lv_at hl 0 rfl) ?_
  refine va_new (ci := 0) (fs := [.null, .null, .null]) (C := RX0) (T := TX0) (N := 3) hx hb hts (by decide +kernel) tyX0 tyX0_ok hown (hts (.classLink RX4 19 RX0) (by decide +kernel)) (hts (.instantiable RX0 3) (by decide +kernel)) (hts (.initialized RX0) (by decide +kernel)) hK hP hD hS hA rfl (fun j hj => by rcases (show j = 0 ∨ j = 1 ∨ j = 2 by omega) with rfl | rfl | rfl <;> rfl) (Nat.le_of_ble_eq_true rfl) (Nat.le_of_ble_eq_true rfl) dX4_init_27 (fun q2 H hP hD hS => ?_)
  replace hP : va_P (dC, dI) vwCl [(h0, .inr (4, [.ref q0, .ref q1, .null, .null, .null, .int 0])), (q0, .inr (2, [.ref q0_0, .int (8 : Int32)])), (q0_0, .inl (cy, 8, .inl (fun _ => 0))), (q1, .inr (2, [.ref q1_0, .int (8 : Int32)])), (q1_0, .inl (cy, 8, .inl (fun _ => 0))), (q2, .inr (0, [.null, .null, .null]))] H := hP
  replace hD : va_D A [(h0, .inr (4, [.ref q0, .ref q1, .null, .null, .null, .int 0])), (q0, .inr (2, [.ref q0_0, .int (8 : Int32)])), (q0_0, .inl (cy, 8, .inl (fun _ => 0))), (q1, .inr (2, [.ref q1_0, .int (8 : Int32)])), (q1_0, .inl (cy, 8, .inl (fun _ => 0))), (q2, .inr (0, [.null, .null, .null]))] := hD
  refine W.widen (k := 5) (n := 23) (by omega) (by omega) ?_
  refine lv_dup hx hb dX4_init_30 rfl ?_
  have hFc := va_free (wc := [(q2, .inr (0, [.null, .null, .null]))]) hD hS hA [5] rfl
  refine va_callv (va_runIN (As := []) (rest := [.ref q2, .ref h0]) ⟨hx, hb, hml, hown, hts⟩ (c_X0_init l dC dI cy q2 H.size) ⟨va_cnB 0 hts gX4_init_X0_init_n21 rfl rfl rfl hN.2.2.2.2.2.2.2.1 (hts (.initialized RX0) (by decide +kernel)) (by decide +kernel) ⟨Nat.le_of_ble_eq_true rfl, Nat.le_of_ble_eq_true rfl⟩, rfl, hts (.instanceMethod yX0_init) (by decide +kernel)⟩ ⟨PW_fb, PW_pre (hP.sub (ws' := [(q2, .inr (0, [.null, .null, .null]))]) [5] rfl) hK (hD.sub [5] (by decide) rfl) hN⟩ rfl rfl hl.1 rfl (lv_room (Nat.le_of_ble_eq_true rfl)) dX4_init_31 ⟨Nat.le_of_ble_eq_true rfl, Nat.le_of_ble_eq_true rfl⟩) hS (fun q _ h => hFc q h) hFc (fun u t H locs ht hvm hw hB hz1 hk1 hS => ?_)
  obtain ⟨q2_0, e_q2_0⟩ : ∃ z, z = u 0 := ⟨_, rfl⟩
  obtain ⟨q2_1, e_q2_1⟩ : ∃ z, z = u 1 := ⟨_, rfl⟩
  obtain ⟨q2_2, e_q2_2⟩ : ∃ z, z = u 2 := ⟨_, rfl⟩
  obtain ⟨q2_3, e_q2_3⟩ : ∃ z, z = u 3 := ⟨_, rfl⟩
  obtain ⟨q2_4, e_q2_4⟩ : ∃ z, z = u 4 := ⟨_, rfl⟩
  rw [← e_q2_0, ← e_q2_1, ← e_q2_2, ← e_q2_3, ← e_q2_4] at hB
  obtain ⟨hP, hD⟩ := jn (wr := [(h0, .inr (4, [.ref q0, .ref q1, .null, .null, .null, .int 0])), (q0, .inr (2, [.ref q0_0, .int (8 : Int32)])), (q0_0, .inl (cy, 8, .inl (fun _ => 0))), (q1, .inr (2, [.ref q1_0, .int (8 : Int32)])), (q1_0, .inl (cy, 8, .inl (fun _ => 0)))]) (w1 := [(q2, .inr (0, [.ref q2_0, .ref q2_2, .ref q2_4])), (q2_0, .inr (2, [.ref q2_1, .int (8 : Int32)])), (q2_1, .inl (cy, 8, .inl (fun _ => 0))), (q2_2, .inr (2, [.ref q2_3, .int (8 : Int32)])), (q2_3, .inl (cy, 8, .inl (fun _ => 0))), (q2_4, .inl (cy, 36, .inl (fun _ => 0)))]) (ws' := [(h0, .inr (4, [.ref q0, .ref q1, .null, .null, .null, .int 0])), (q0, .inr (2, [.ref q0_0, .int (8 : Int32)])), (q0_0, .inl (cy, 8, .inl (fun _ => 0))), (q1, .inr (2, [.ref q1_0, .int (8 : Int32)])), (q1_0, .inl (cy, 8, .inl (fun _ => 0))), (q2, .inr (0, [.ref q2_0, .ref q2_2, .ref q2_4])), (q2_0, .inr (2, [.ref q2_1, .int (8 : Int32)])), (q2_1, .inl (cy, 8, .inl (fun _ => 0))), (q2_2, .inr (2, [.ref q2_3, .int (8 : Int32)])), (q2_3, .inl (cy, 8, .inl (fun _ => 0))), (q2_4, .inl (cy, 36, .inl (fun _ => 0)))]) hP hD [5] [0, 1, 2, 3, 4] rfl rfl (by decide) (by decide) hk1 hFc hB ht [0, 1, 2, 3, 4, 5, 6, 7, 8, 9, 10] rfl (by decide) rfl
  clear hFc hB hk1 hz1 hvm hw
  refine W.widen (k := 10) (n := 79) (by omega) (by omega) ?_
  refine va_putF (D := (dC, dI)) (ci := 4) (v := .ref q2) (ty := .object "FewLooks$Mender") (C := RX4) (T := TX4) (N := 6) hx hb hts (by decide +kernel) tyX4 tyX4_ok nmX4 hown hK hP hD hS 0 rfl rfl 2 (by decide) (hts (.fieldLink RX4 22 "FewLooks" "mender" "LFewLooks$Mender;") (by decide +kernel)) (fun _ h9 => h9) rfl hin rfl (by decide +kernel) rfl rfl (Nat.le_of_ble_eq_true rfl) dX4_init_34 (fun H locs hP hD hS => ?_)
  replace hP : va_P (dC, dI) vwCl [(h0, .inr (4, [.ref q0, .ref q1, .ref q2, .null, .null, .int 0])), (q0, .inr (2, [.ref q0_0, .int (8 : Int32)])), (q0_0, .inl (cy, 8, .inl (fun _ => 0))), (q1, .inr (2, [.ref q1_0, .int (8 : Int32)])), (q1_0, .inl (cy, 8, .inl (fun _ => 0))), (q2, .inr (0, [.ref q2_0, .ref q2_2, .ref q2_4])), (q2_0, .inr (2, [.ref q2_1, .int (8 : Int32)])), (q2_1, .inl (cy, 8, .inl (fun _ => 0))), (q2_2, .inr (2, [.ref q2_3, .int (8 : Int32)])), (q2_3, .inl (cy, 8, .inl (fun _ => 0))), (q2_4, .inl (cy, 36, .inl (fun _ => 0)))] H := hP
  replace hD : va_D A [(h0, .inr (4, [.ref q0, .ref q1, .ref q2, .null, .null, .int 0])), (q0, .inr (2, [.ref q0_0, .int (8 : Int32)])), (q0_0, .inl (cy, 8, .inl (fun _ => 0))), (q1, .inr (2, [.ref q1_0, .int (8 : Int32)])), (q1_0, .inl (cy, 8, .inl (fun _ => 0))), (q2, .inr (0, [.ref q2_0, .ref q2_2, .ref q2_4])), (q2_0, .inr (2, [.ref q2_1, .int (8 : Int32)])), (q2_1, .inl (cy, 8, .inl (fun _ => 0))), (q2_2, .inr (2, [.ref q2_3, .int (8 : Int32)])), (q2_3, .inl (cy, 8, .inl (fun _ => 0))), (q2_4, .inl (cy, 36, .inl (fun _ => 0)))] := hD
  refine lv_aload_n hx hb dX4_init_37 rfl (lv_at hl 0 rfl) ?_
  refine va_new (ci := 3) (fs := [.int 0]) (C := RX3) (T := TX3) (N := 1) hx hb hts (by decide +kernel) tyX3 tyX3_ok hown (hts (.classLink RX4 26 RX3) (by decide +kernel)) (hts (.instantiable RX3 1) (by decide +kernel)) (hts (.initialized RX3) (by decide +kernel)) hK hP hD hS hA rfl (fun j hj => by rcases (show j = 0 by omega) with rfl <;> rfl) (Nat.le_of_ble_eq_true rfl) (Nat.le_of_ble_eq_true rfl) dX4_init_38 (fun q3 H hP hD hS => ?_)
  replace hP : va_P (dC, dI) vwCl [(h0, .inr (4, [.ref q0, .ref q1, .ref q2, .null, .null, .int 0])), (q0, .inr (2, [.ref q0_0, .int (8 : Int32)])), (q0_0, .inl (cy, 8, .inl (fun _ => 0))), (q1, .inr (2, [.ref q1_0, .int (8 : Int32)])), (q1_0, .inl (cy, 8, .inl (fun _ => 0))), (q2, .inr (0, [.ref q2_0, .ref q2_2, .ref q2_4])), (q2_0, .inr (2, [.ref q2_1, .int (8 : Int32)])), (q2_1, .inl (cy, 8, .inl (fun _ => 0))), (q2_2, .inr (2, [.ref q2_3, .int (8 : Int32)])), (q2_3, .inl (cy, 8, .inl (fun _ => 0))), (q2_4, .inl (cy, 36, .inl (fun _ => 0))), (q3, .inr (3, [.int 0]))] H := hP
  replace hD : va_D A [(h0, .inr (4, [.ref q0, .ref q1, .ref q2, .null, .null, .int 0])), (q0, .inr (2, [.ref q0_0, .int (8 : Int32)])), (q0_0, .inl (cy, 8, .inl (fun _ => 0))), (q1, .inr (2, [.ref q1_0, .int (8 : Int32)])), (q1_0, .inl (cy, 8, .inl (fun _ => 0))), (q2, .inr (0, [.ref q2_0, .ref q2_2, .ref q2_4])), (q2_0, .inr (2, [.ref q2_1, .int (8 : Int32)])), (q2_1, .inl (cy, 8, .inl (fun _ => 0))), (q2_2, .inr (2, [.ref q2_3, .int (8 : Int32)])), (q2_3, .inl (cy, 8, .inl (fun _ => 0))), (q2_4, .inl (cy, 36, .inl (fun _ => 0))), (q3, .inr (3, [.int 0]))] := hD
  refine W.widen (k := 11) (n := 80) (by omega) (by omega) ?_
  refine lv_dup hx hb dX4_init_41 rfl ?_
  have hFc := va_free (wc := [(q3, .inr (3, [.int 0]))]) hD hS hA [11] rfl
  refine va_callv (va_runIN (As := []) (rest := [.ref q3, .ref h0]) ⟨hx, hb, hml, hown, hts⟩ (c_X3_init l dC dI cy q3 H.size) ⟨va_cnB 0 hts gX4_init_X3_init_n28 rfl rfl rfl hN.2.2.2.2.2.2.2.2.1 (hts (.initialized RX3) (by decide +kernel)) (by decide +kernel) ⟨Nat.le_of_ble_eq_true rfl, Nat.le_of_ble_eq_true rfl⟩, rfl, hts (.instanceMethod yX3_init) (by decide +kernel)⟩ ⟨PW_fb, PW_pre (hP.sub (ws' := [(q3, .inr (3, [.int 0]))]) [11] rfl) hK (hD.sub [11] (by decide) rfl) hN⟩ rfl rfl hl.1 rfl (lv_room (Nat.le_of_ble_eq_true rfl)) dX4_init_42 ⟨Nat.le_of_ble_eq_true rfl, Nat.le_of_ble_eq_true rfl⟩) hS (fun q _ h => hFc q h) hFc (fun u t H locs ht hvm hw hB hz1 hk1 hS => ?_)
  obtain ⟨hP, hD⟩ := jn (wr := [(h0, .inr (4, [.ref q0, .ref q1, .ref q2, .null, .null, .int 0])), (q0, .inr (2, [.ref q0_0, .int (8 : Int32)])), (q0_0, .inl (cy, 8, .inl (fun _ => 0))), (q1, .inr (2, [.ref q1_0, .int (8 : Int32)])), (q1_0, .inl (cy, 8, .inl (fun _ => 0))), (q2, .inr (0, [.ref q2_0, .ref q2_2, .ref q2_4])), (q2_0, .inr (2, [.ref q2_1, .int (8 : Int32)])), (q2_1, .inl (cy, 8, .inl (fun _ => 0))), (q2_2, .inr (2, [.ref q2_3, .int (8 : Int32)])), (q2_3, .inl (cy, 8, .inl (fun _ => 0))), (q2_4, .inl (cy, 36, .inl (fun _ => 0)))]) (w1 := [(q3, .inr (3, [.int (0 : Int32)]))]) (ws' := [(h0, .inr (4, [.ref q0, .ref q1, .ref q2, .null, .null, .int 0])), (q0, .inr (2, [.ref q0_0, .int (8 : Int32)])), (q0_0, .inl (cy, 8, .inl (fun _ => 0))), (q1, .inr (2, [.ref q1_0, .int (8 : Int32)])), (q1_0, .inl (cy, 8, .inl (fun _ => 0))), (q2, .inr (0, [.ref q2_0, .ref q2_2, .ref q2_4])), (q2_0, .inr (2, [.ref q2_1, .int (8 : Int32)])), (q2_1, .inl (cy, 8, .inl (fun _ => 0))), (q2_2, .inr (2, [.ref q2_3, .int (8 : Int32)])), (q2_3, .inl (cy, 8, .inl (fun _ => 0))), (q2_4, .inl (cy, 36, .inl (fun _ => 0))), (q3, .inr (3, [.int (0 : Int32)]))]) hP hD [11] [0, 1, 2, 3, 4, 5, 6, 7, 8, 9, 10] rfl rfl (by decide) (by decide) hk1 hFc hB ht [0, 1, 2, 3, 4, 5, 6, 7, 8, 9, 10, 11] rfl (by decide) rfl
  clear hFc hB hk1 hz1 hvm hw
  refine W.widen (k := 11) (n := 80) (by omega) (by omega) ?_
  refine va_putF (D := (dC, dI)) (ci := 4) (v := .ref q3) (ty := .object "FewLooks$Table") (C := RX4) (T := TX4) (N := 6) hx hb hts (by decide +kernel) tyX4 tyX4_ok nmX4 hown hK hP hD hS 0 rfl rfl 3 (by decide) (hts (.fieldLink RX4 29 "FewLooks" "table" "LFewLooks$Table;") (by decide +kernel)) (fun _ h9 => h9) rfl hin rfl (by decide +kernel) rfl rfl (Nat.le_of_ble_eq_true rfl) dX4_init_45 (fun H locs hP hD hS => ?_)
  replace hP : va_P (dC, dI) vwCl [(h0, .inr (4, [.ref q0, .ref q1, .ref q2, .ref q3, .null, .int 0])), (q0, .inr (2, [.ref q0_0, .int (8 : Int32)])), (q0_0, .inl (cy, 8, .inl (fun _ => 0))), (q1, .inr (2, [.ref q1_0, .int (8 : Int32)])), (q1_0, .inl (cy, 8, .inl (fun _ => 0))), (q2, .inr (0, [.ref q2_0, .ref q2_2, .ref q2_4])), (q2_0, .inr (2, [.ref q2_1, .int (8 : Int32)])), (q2_1, .inl (cy, 8, .inl (fun _ => 0))), (q2_2, .inr (2, [.ref q2_3, .int (8 : Int32)])), (q2_3, .inl (cy, 8, .inl (fun _ => 0))), (q2_4, .inl (cy, 36, .inl (fun _ => 0))), (q3, .inr (3, [.int (0 : Int32)]))] H := hP
  replace hD : va_D A [(h0, .inr (4, [.ref q0, .ref q1, .ref q2, .ref q3, .null, .int 0])), (q0, .inr (2, [.ref q0_0, .int (8 : Int32)])), (q0_0, .inl (cy, 8, .inl (fun _ => 0))), (q1, .inr (2, [.ref q1_0, .int (8 : Int32)])), (q1_0, .inl (cy, 8, .inl (fun _ => 0))), (q2, .inr (0, [.ref q2_0, .ref q2_2, .ref q2_4])), (q2_0, .inr (2, [.ref q2_1, .int (8 : Int32)])), (q2_1, .inl (cy, 8, .inl (fun _ => 0))), (q2_2, .inr (2, [.ref q2_3, .int (8 : Int32)])), (q2_3, .inl (cy, 8, .inl (fun _ => 0))), (q2_4, .inl (cy, 36, .inl (fun _ => 0))), (q3, .inr (3, [.int (0 : Int32)]))] := hD
  refine lv_aload_n hx hb dX4_init_48 rfl (lv_at hl 0 rfl) ?_
  refine va_new (ci := 1) (fs := [.null]) (C := RX1) (T := TX1) (N := 1) hx hb hts (by decide +kernel) tyX1 tyX1_ok hown (hts (.classLink RX4 33 RX1) (by decide +kernel)) (hts (.instantiable RX1 1) (by decide +kernel)) (hts (.initialized RX1) (by decide +kernel)) hK hP hD hS hA rfl (fun j hj => by rcases (show j = 0 by omega) with rfl <;> rfl) (Nat.le_of_ble_eq_true rfl) (Nat.le_of_ble_eq_true rfl) dX4_init_49 (fun q4 H hP hD hS => ?_)
  replace hP : va_P (dC, dI) vwCl [(h0, .inr (4, [.ref q0, .ref q1, .ref q2, .ref q3, .null, .int 0])), (q0, .inr (2, [.ref q0_0, .int (8 : Int32)])), (q0_0, .inl (cy, 8, .inl (fun _ => 0))), (q1, .inr (2, [.ref q1_0, .int (8 : Int32)])), (q1_0, .inl (cy, 8, .inl (fun _ => 0))), (q2, .inr (0, [.ref q2_0, .ref q2_2, .ref q2_4])), (q2_0, .inr (2, [.ref q2_1, .int (8 : Int32)])), (q2_1, .inl (cy, 8, .inl (fun _ => 0))), (q2_2, .inr (2, [.ref q2_3, .int (8 : Int32)])), (q2_3, .inl (cy, 8, .inl (fun _ => 0))), (q2_4, .inl (cy, 36, .inl (fun _ => 0))), (q3, .inr (3, [.int (0 : Int32)])), (q4, .inr (1, [.null]))] H := hP
  replace hD : va_D A [(h0, .inr (4, [.ref q0, .ref q1, .ref q2, .ref q3, .null, .int 0])), (q0, .inr (2, [.ref q0_0, .int (8 : Int32)])), (q0_0, .inl (cy, 8, .inl (fun _ => 0))), (q1, .inr (2, [.ref q1_0, .int (8 : Int32)])), (q1_0, .inl (cy, 8, .inl (fun _ => 0))), (q2, .inr (0, [.ref q2_0, .ref q2_2, .ref q2_4])), (q2_0, .inr (2, [.ref q2_1, .int (8 : Int32)])), (q2_1, .inl (cy, 8, .inl (fun _ => 0))), (q2_2, .inr (2, [.ref q2_3, .int (8 : Int32)])), (q2_3, .inl (cy, 8, .inl (fun _ => 0))), (q2_4, .inl (cy, 36, .inl (fun _ => 0))), (q3, .inr (3, [.int (0 : Int32)])), (q4, .inr (1, [.null]))] := hD
  refine W.widen (k := 12) (n := 81) (by omega) (by omega) ?_
  refine lv_dup hx hb dX4_init_52 rfl ?_
  have hFc := va_free (wc := [(q4, .inr (1, [.null]))]) hD hS hA [12] rfl
  refine va_callv (va_runIN (As := []) (rest := [.ref q4, .ref h0]) ⟨hx, hb, hml, hown, hts⟩ (c_X1_init l dC dI cy q4 H.size) ⟨va_cnB 0 hts gX4_init_X1_init_n35 rfl rfl rfl hN.2.2.2.2.2.2.2.2.2.1 (hts (.initialized RX1) (by decide +kernel)) (by decide +kernel) ⟨Nat.le_of_ble_eq_true rfl, Nat.le_of_ble_eq_true rfl⟩, rfl, hts (.instanceMethod yX1_init) (by decide +kernel)⟩ ⟨PW_fb, PW_pre (hP.sub (ws' := [(q4, .inr (1, [.null]))]) [12] rfl) hK (hD.sub [12] (by decide) rfl) hN⟩ rfl rfl hl.1 rfl (lv_room (Nat.le_of_ble_eq_true rfl)) dX4_init_53 ⟨Nat.le_of_ble_eq_true rfl, Nat.le_of_ble_eq_true rfl⟩) hS (fun q _ h => hFc q h) hFc (fun u t H locs ht hvm hw hB hz1 hk1 hS => ?_)
  obtain ⟨q4_0, e_q4_0⟩ : ∃ z, z = u 0 := ⟨_, rfl⟩
  rw [← e_q4_0] at hB
  obtain ⟨hP, hD⟩ := jn (wr := [(h0, .inr (4, [.ref q0, .ref q1, .ref q2, .ref q3, .null, .int 0])), (q0, .inr (2, [.ref q0_0, .int (8 : Int32)])), (q0_0, .inl (cy, 8, .inl (fun _ => 0))), (q1, .inr (2, [.ref q1_0, .int (8 : Int32)])), (q1_0, .inl (cy, 8, .inl (fun _ => 0))), (q2, .inr (0, [.ref q2_0, .ref q2_2, .ref q2_4])), (q2_0, .inr (2, [.ref q2_1, .int (8 : Int32)])), (q2_1, .inl (cy, 8, .inl (fun _ => 0))), (q2_2, .inr (2, [.ref q2_3, .int (8 : Int32)])), (q2_3, .inl (cy, 8, .inl (fun _ => 0))), (q2_4, .inl (cy, 36, .inl (fun _ => 0))), (q3, .inr (3, [.int (0 : Int32)]))]) (w1 := [(q4, .inr (1, [.ref q4_0])), (q4_0, .inl (cy, 6, .inl (fun _ => 0)))]) (ws' := [(h0, .inr (4, [.ref q0, .ref q1, .ref q2, .ref q3, .null, .int 0])), (q0, .inr (2, [.ref q0_0, .int (8 : Int32)])), (q0_0, .inl (cy, 8, .inl (fun _ => 0))), (q1, .inr (2, [.ref q1_0, .int (8 : Int32)])), (q1_0, .inl (cy, 8, .inl (fun _ => 0))), (q2, .inr (0, [.ref q2_0, .ref q2_2, .ref q2_4])), (q2_0, .inr (2, [.ref q2_1, .int (8 : Int32)])), (q2_1, .inl (cy, 8, .inl (fun _ => 0))), (q2_2, .inr (2, [.ref q2_3, .int (8 : Int32)])), (q2_3, .inl (cy, 8, .inl (fun _ => 0))), (q2_4, .inl (cy, 36, .inl (fun _ => 0))), (q3, .inr (3, [.int (0 : Int32)])), (q4, .inr (1, [.ref q4_0])), (q4_0, .inl (cy, 6, .inl (fun _ => 0)))]) hP hD [12] [0, 1, 2, 3, 4, 5, 6, 7, 8, 9, 10, 11] rfl rfl (by decide) (by decide) hk1 hFc hB ht [0, 1, 2, 3, 4, 5, 6, 7, 8, 9, 10, 11, 12, 13] rfl (by decide) rfl
  clear hFc hB hk1 hz1 hvm hw
  refine W.widen (k := 13) (n := 87) (by omega) (by omega) ?_
  refine va_putF (D := (dC, dI)) (ci := 4) (v := .ref q4) (ty := .object "FewLooks$Net") (C := RX4) (T := TX4) (N := 6) hx hb hts (by decide +kernel) tyX4 tyX4_ok nmX4 hown hK hP hD hS 0 rfl rfl 4 (by decide) (hts (.fieldLink RX4 36 "FewLooks" "net" "LFewLooks$Net;") (by decide +kernel)) (fun _ h9 => h9) rfl hin rfl (by decide +kernel) rfl rfl (Nat.le_of_ble_eq_true rfl) dX4_init_56 (fun H locs hP hD hS => ?_)
  replace hP : va_P (dC, dI) vwCl [(h0, .inr (4, [.ref q0, .ref q1, .ref q2, .ref q3, .ref q4, .int 0])), (q0, .inr (2, [.ref q0_0, .int (8 : Int32)])), (q0_0, .inl (cy, 8, .inl (fun _ => 0))), (q1, .inr (2, [.ref q1_0, .int (8 : Int32)])), (q1_0, .inl (cy, 8, .inl (fun _ => 0))), (q2, .inr (0, [.ref q2_0, .ref q2_2, .ref q2_4])), (q2_0, .inr (2, [.ref q2_1, .int (8 : Int32)])), (q2_1, .inl (cy, 8, .inl (fun _ => 0))), (q2_2, .inr (2, [.ref q2_3, .int (8 : Int32)])), (q2_3, .inl (cy, 8, .inl (fun _ => 0))), (q2_4, .inl (cy, 36, .inl (fun _ => 0))), (q3, .inr (3, [.int (0 : Int32)])), (q4, .inr (1, [.ref q4_0])), (q4_0, .inl (cy, 6, .inl (fun _ => 0)))] H := hP
  replace hD : va_D A [(h0, .inr (4, [.ref q0, .ref q1, .ref q2, .ref q3, .ref q4, .int 0])), (q0, .inr (2, [.ref q0_0, .int (8 : Int32)])), (q0_0, .inl (cy, 8, .inl (fun _ => 0))), (q1, .inr (2, [.ref q1_0, .int (8 : Int32)])), (q1_0, .inl (cy, 8, .inl (fun _ => 0))), (q2, .inr (0, [.ref q2_0, .ref q2_2, .ref q2_4])), (q2_0, .inr (2, [.ref q2_1, .int (8 : Int32)])), (q2_1, .inl (cy, 8, .inl (fun _ => 0))), (q2_2, .inr (2, [.ref q2_3, .int (8 : Int32)])), (q2_3, .inl (cy, 8, .inl (fun _ => 0))), (q2_4, .inl (cy, 36, .inl (fun _ => 0))), (q3, .inr (3, [.int (0 : Int32)])), (q4, .inr (1, [.ref q4_0])), (q4_0, .inl (cy, 6, .inl (fun _ => 0)))] := hD
  refine lv_aload_n hx hb dX4_init_59 rfl (lv_at hl 0 rfl) ?_
  refine lv_iconst (v := (3 : Int32)) hx hb dX4_init_60 (by decide) ?_
  refine va_put (D := (dC, dI)) (ci := 4) (v := .int (3 : Int32)) (ty := .int) (C := RX4) (T := TX4) (N := 6) hx hb hts (by decide +kernel) tyX4 tyX4_ok nmX4 hown hK hP hD hS 0 rfl rfl 5 (by decide) (hts (.fieldLink RX4 40 "FewLooks" "drawn" "I") (by decide +kernel)) (fun _ h9 => h9) rfl (by decide +kernel) rfl rfl (Nat.le_of_ble_eq_true rfl) dX4_init_61 (fun H locs hP hD hS => ?_)
  replace hP : va_P (dC, dI) vwCl [(h0, .inr (4, [.ref q0, .ref q1, .ref q2, .ref q3, .ref q4, .int (3 : Int32)])), (q0, .inr (2, [.ref q0_0, .int (8 : Int32)])), (q0_0, .inl (cy, 8, .inl (fun _ => 0))), (q1, .inr (2, [.ref q1_0, .int (8 : Int32)])), (q1_0, .inl (cy, 8, .inl (fun _ => 0))), (q2, .inr (0, [.ref q2_0, .ref q2_2, .ref q2_4])), (q2_0, .inr (2, [.ref q2_1, .int (8 : Int32)])), (q2_1, .inl (cy, 8, .inl (fun _ => 0))), (q2_2, .inr (2, [.ref q2_3, .int (8 : Int32)])), (q2_3, .inl (cy, 8, .inl (fun _ => 0))), (q2_4, .inl (cy, 36, .inl (fun _ => 0))), (q3, .inr (3, [.int (0 : Int32)])), (q4, .inr (1, [.ref q4_0])), (q4_0, .inl (cy, 6, .inl (fun _ => 0)))] H := hP
  replace hD : va_D A [(h0, .inr (4, [.ref q0, .ref q1, .ref q2, .ref q3, .ref q4, .int (3 : Int32)])), (q0, .inr (2, [.ref q0_0, .int (8 : Int32)])), (q0_0, .inl (cy, 8, .inl (fun _ => 0))), (q1, .inr (2, [.ref q1_0, .int (8 : Int32)])), (q1_0, .inl (cy, 8, .inl (fun _ => 0))), (q2, .inr (0, [.ref q2_0, .ref q2_2, .ref q2_4])), (q2_0, .inr (2, [.ref q2_1, .int (8 : Int32)])), (q2_1, .inl (cy, 8, .inl (fun _ => 0))), (q2_2, .inr (2, [.ref q2_3, .int (8 : Int32)])), (q2_3, .inl (cy, 8, .inl (fun _ => 0))), (q2_4, .inl (cy, 36, .inl (fun _ => 0))), (q3, .inr (3, [.int (0 : Int32)])), (q4, .inr (1, [.ref q4_0])), (q4_0, .inl (cy, 6, .inl (fun _ => 0)))] := hD
  replace hP := hP.sub (ws' := [(h0, .inr (4, [.ref q0, .ref q1, .ref q2, .ref q3, .ref q4, .int (3 : Int32)])), (q0, .inr (2, [.ref q0_0, .int (8 : Int32)])), (q0_0, .inl (cy, 8, .inl (fun _ => 0))), (q1, .inr (2, [.ref q1_0, .int (8 : Int32)])), (q1_0, .inl (cy, 8, .inl (fun _ => 0))), (q2, .inr (0, [.ref q2_0, .ref q2_2, .ref q2_4])), (q2_0, .inr (2, [.ref q2_1, .int (8 : Int32)])), (q2_1, .inl (cy, 8, .inl (fun _ => 0))), (q2_2, .inr (2, [.ref q2_3, .int (8 : Int32)])), (q2_3, .inl (cy, 8, .inl (fun _ => 0))), (q2_4, .inl (cy, 36, .inl (fun _ => 0))), (q3, .inr (3, [.int (0 : Int32)])), (q4, .inr (1, [.ref q4_0])), (q4_0, .inl (cy, 6, .inl (fun _ => 0)))]) [0, 1, 2, 3, 4, 5, 6, 7, 8, 9, 10, 11, 12, 13] rfl
  replace hD := hD.sub (ws' := [(h0, .inr (4, [.ref q0, .ref q1, .ref q2, .ref q3, .ref q4, .int (3 : Int32)])), (q0, .inr (2, [.ref q0_0, .int (8 : Int32)])), (q0_0, .inl (cy, 8, .inl (fun _ => 0))), (q1, .inr (2, [.ref q1_0, .int (8 : Int32)])), (q1_0, .inl (cy, 8, .inl (fun _ => 0))), (q2, .inr (0, [.ref q2_0, .ref q2_2, .ref q2_4])), (q2_0, .inr (2, [.ref q2_1, .int (8 : Int32)])), (q2_1, .inl (cy, 8, .inl (fun _ => 0))), (q2_2, .inr (2, [.ref q2_3, .int (8 : Int32)])), (q2_3, .inl (cy, 8, .inl (fun _ => 0))), (q2_4, .inl (cy, 36, .inl (fun _ => 0))), (q3, .inr (3, [.int (0 : Int32)])), (q4, .inr (1, [.ref q4_0])), (q4_0, .inl (cy, 6, .inl (fun _ => 0)))]) [0, 1, 2, 3, 4, 5, 6, 7, 8, 9, 10, 11, 12, 13] (by decide) rfl
  refine W.widen (k := 13) (n := 87) (Nat.le_of_ble_eq_true rfl) (Nat.le_of_ble_eq_true rfl) ?_
  exact W.vret hx hb hr (fun t ht hW => ⟨⟨(fun k => [q0, q0_0, q1, q1_0, q2, q2_0, q2_1, q2_2, q2_3, q2_4, q3, q4, q4_0].getD k 0), rfl, trivial, QW_mk hP hK hD ht hW⟩, hS.F ht⟩) hS.2.2 dX4_init_64

set_option maxHeartbeats 4000000 in
set_option maxRecDepth 100000 in
theorem c_X5_init (l : Launch) (dC : Nat → ClassId) (dI : Nat → Nat → Nat) (cy : ClassId) (h0 sz : Nat) : Met l yX5_init wsX5_init ({ frames := 1, cells := 5, slots := 38, locals := 12 }) (va_Pc [.ref h0] (PW (dC, dI) cy sz [(h0, .inr (5, [.int 0, .null, .null, .null, .int 0, .null, .null, .long 0, .long 0, .long 0, .long 0]))])) (va_Qv (fun (_ : Nat → Nat) => True) (fun (u : Nat → Nat) (t : State) => QW (dC, dI) cy (va_A [(h0, .inr (5, [.int 0, .null, .null, .null, .int 0, .null, .null, .long 0, .long 0, .long 0, .long 0]))] sz) [(h0, .inr (5, [.int (8 : Int32), .ref (u 0), .ref (u 1), .ref (u 2), .int (3 : Int32), .ref (u 3), .ref (u 4), .long 0, .long 0, .long 0, .long 0])), (u 0, .inl (cy, 8, .inl (fun _ => 0))), (u 1, .inl (cy, 8, .inl (fun _ => 0))), (u 2, .inl (cy, 6, .inl (fun _ => 0))), (u 3, .inl (cy, 8, .inl (fun _ => 0))), (u 4, .inl (cy, 8, .inl (fun _ => 0)))] () t) (va_A [(h0, .inr (5, [.int 0, .null, .null, .null, .int 0, .null, .null, .long 0, .long 0, .long 0, .long 0]))] sz)) 5 38 (va_A [(h0, .inr (5, [.int 0, .null, .null, .null, .int 0, .null, .null, .long 0, .long 0, .long 0, .long 0]))] sz) := by
  refine Met.ofW (cc := cX5_init) (maxL := 1) (ret := none) (by decide) rfl ?_
  intro p e s m args below meth c s₁ B hml hv
  obtain ⟨rfl, hsz, hP, hK, hD0, hN⟩ := hv
  have hx := B.exec
  have hb := B.bytes
  have hr := B.returns
  have hts := atoms_spec (ws := wsX5_init) B.pre
  have hown : s.vm.findClass RX5 = some m.cls := findClass_of_methodNamed B.named
  have hlocks := B.notSynchronized
  have hin : meth.name = "<init>" := (name_of_methodNamed B.named B.method).1
  subst hsz
  have hD := hD0.self (sz := s.heap.size)
  clear hD0
  generalize hAe : va_A [(h0, .inr (5, [.int 0, .null, .null, .null, .int 0, .null, .null, .long 0, .long 0, .long 0, .long 0]))] s.heap.size = A at hD ⊢
  have hA : ∀ q : Nat, s.heap.size ≤ q → A q := fun q h => by rw [← hAe]; exact Or.inr h
  have hS : va_S A s.heap s.heap [] := va_S.rf
  replace hP : va_P (dC, dI) vwCl [(h0, .inr (5, [.int 0, .null, .null, .null, .int 0, .null, .null, .long 0, .long 0, .long 0, .long 0]))] s.heap := hP
  have hl := lv_entry ([.ref h0]) (n := 1) (Nat.le_of_ble_eq_true rfl)
  rw [lg_entry_eq]
  generalize (lg_sl ([.ref h0]) ++ List.replicate (1 - (lg_sl ([.ref h0])).length) Slot.unset).toArray = ls at hl ⊢
  replace hl : lv_has ls 1 [(0, .ref h0)] := hl
  refine lv_aload_n hx hb dX5_init_0 rfl (lv_at hl 0 rfl) ?_
  refine W.objInit hx hb hown (hts (.methodLink RX5 1 objectInit) (by decide +kernel)) (hts (.instanceMethod objectInit) (by decide +kernel)) (hts (.code objectInit ⟨#[0xb1]⟩ 1 none) (by decide +kernel)) rfl (by rw [hml]; exact hl.1) rfl dX5_init_1 (Nat.le_of_ble_eq_true rfl) (Nat.le_of_ble_eq_true rfl) ?_
  refine W.eq (g2 := F0 m 4 ls []) rfl ?_
  refine lv_aload_n hx hb dX5_init_4 rfl (lv_at hl 0 rfl) ?_
  refine lv_bipush (v := (8 : Int32)) hx hb dX5_init_5 (by decide) ?_
  refine va_put (D := (dC, dI)) (ci := 5) (v := .int (8 : Int32)) (ty := .int) (C := RX5) (T := TX5) (N := 11) hx hb hts (by decide +kernel) tyX5 tyX5_ok nmX5 hown hK hP hD hS 0 rfl rfl 0 (by decide) (hts (.fieldLink RX5 7 "FewLooksModel" "n" "I") (by decide +kernel)) (fun _ h9 => h9) rfl (by decide +kernel) rfl rfl (Nat.le_of_ble_eq_true rfl) dX5_init_7 (fun H locs hP hD hS => ?_)
  replace hP : va_P (dC, dI) vwCl [(h0, .inr (5, [.int (8 : Int32), .null, .null, .null, .int 0, .null, .null, .long 0, .long 0, .long 0, .long 0]))] H := hP
  replace hD : va_D A [(h0, .inr (5, [.int (8 : Int32), .null, .null, .null, .int 0, .null, .null, .long 0, .long 0, .long 0, .long 0]))] := hD
  refine lv_aload_n hx hb dX5_init_10 rfl (lv_at hl 0 rfl) ?_
  refine lv_bipush (v := (8 : Int32)) hx hb dX5_init_11 (by decide) ?_
  refine va_newa (atype := .int) (ty := .int) (N' := 8) (a0 := (8, .inl (fun _ => 0))) hx hb (hts (.arrayClass .int) (by decide +kernel)) rfl hK hP hD hS hA (fun _ => rfl) (by decide) (by decide) (by decide) (Nat.le_of_ble_eq_true rfl) (Nat.le_of_ble_eq_true rfl) dX5_init_13 (fun q0 cA H hK2 hP hD hS => ?_)
  have ecA := (newcy hK2).symm
  subst ecA
  clear hK2
  replace hP : va_P (dC, dI) vwCl [(h0, .inr (5, [.int (8 : Int32), .null, .null, .null, .int 0, .null, .null, .long 0, .long 0, .long 0, .long 0])), (q0, .inl (cy, 8, .inl (fun _ => 0)))] H := hP
  replace hD : va_D A [(h0, .inr (5, [.int (8 : Int32), .null, .null, .null, .int 0, .null, .null, .long 0, .long 0, .long 0, .long 0])), (q0, .inl (cy, 8, .inl (fun _ => 0)))] := hD
  refine W.widen (k := 1) (n := 8) (by omega) (by omega) ?_
  refine va_putF (D := (dC, dI)) (ci := 5) (v := .ref q0) (ty := .array .int) (C := RX5) (T := TX5) (N := 11) hx hb hts (by decide +kernel) tyX5 tyX5_ok nmX5 hown hK hP hD hS 0 rfl rfl 1 (by decide) (hts (.fieldLink RX5 13 "FewLooksModel" "row" "[I") (by decide +kernel)) (fun _ h9 => h9) rfl hin rfl (by decide +kernel) rfl rfl (Nat.le_of_ble_eq_true rfl) dX5_init_15 (fun H locs hP hD hS => ?_)
  replace hP : va_P (dC, dI) vwCl [(h0, .inr (5, [.int (8 : Int32), .ref q0, .null, .null, .int 0, .null, .null, .long 0, .long 0, .long 0, .long 0])), (q0, .inl (cy, 8, .inl (fun _ => 0)))] H := hP
  replace hD : va_D A [(h0, .inr (5, [.int (8 : Int32), .ref q0, .null, .null, .int 0, .null, .null, .long 0, .long 0, .long 0, .long 0])), (q0, .inl (cy, 8, .inl (fun _ => 0)))] := hD
  refine lv_aload_n hx hb dX5_init_18 rfl (lv_at hl 0 rfl) ?_
  refine lv_bipush (v := (8 : Int32)) hx hb dX5_init_19 (by decide) ?_
  refine va_newa (atype := .int) (ty := .int) (N' := 8) (a0 := (8, .inl (fun _ => 0))) hx hb (hts (.arrayClass .int) (by decide +kernel)) rfl hK hP hD hS hA (fun _ => rfl) (by decide) (by decide) (by decide) (Nat.le_of_ble_eq_true rfl) (Nat.le_of_ble_eq_true rfl) dX5_init_21 (fun q1 cA H hK2 hP hD hS => ?_)
  have ecA := (newcy hK2).symm
  subst ecA
  clear hK2
  replace hP : va_P (dC, dI) vwCl [(h0, .inr (5, [.int (8 : Int32), .ref q0, .null, .null, .int 0, .null, .null, .long 0, .long 0, .long 0, .long 0])), (q0, .inl (cy, 8, .inl (fun _ => 0))), (q1, .inl (cy, 8, .inl (fun _ => 0)))] H := hP
  replace hD : va_D A [(h0, .inr (5, [.int (8 : Int32), .ref q0, .null, .null, .int 0, .null, .null, .long 0, .long 0, .long 0, .long 0])), (q0, .inl (cy, 8, .inl (fun _ => 0))), (q1, .inl (cy, 8, .inl (fun _ => 0)))] := hD
  refine W.widen (k := 2) (n := 16) (by omega) (by omega) ?_
  refine va_putF (D := (dC, dI)) (ci := 5) (v := .ref q1) (ty := .array .int) (C := RX5) (T := TX5) (N := 11) hx hb hts (by decide +kernel) tyX5 tyX5_ok nmX5 hown hK hP hD hS 0 rfl rfl 2 (by decide) (hts (.fieldLink RX5 17 "FewLooksModel" "table" "[I") (by decide +kernel)) (fun _ h9 => h9) rfl hin rfl (by decide +kernel) rfl rfl (Nat.le_of_ble_eq_true rfl) dX5_init_23 (fun H locs hP hD hS => ?_)
  replace hP : va_P (dC, dI) vwCl [(h0, .inr (5, [.int (8 : Int32), .ref q0, .ref q1, .null, .int 0, .null, .null, .long 0, .long 0, .long 0, .long 0])), (q0, .inl (cy, 8, .inl (fun _ => 0))), (q1, .inl (cy, 8, .inl (fun _ => 0)))] H := hP
  replace hD : va_D A [(h0, .inr (5, [.int (8 : Int32), .ref q0, .ref q1, .null, .int 0, .null, .null, .long 0, .long 0, .long 0, .long 0])), (q0, .inl (cy, 8, .inl (fun _ => 0))), (q1, .inl (cy, 8, .inl (fun _ => 0)))] := hD
  refine lv_aload_n hx hb dX5_init_26 rfl (lv_at hl 0 rfl) ?_
  refine lv_bipush (v := (6 : Int32)) hx hb dX5_init_27 (by decide) ?_
  refine va_newa (atype := .int) (ty := .int) (N' := 6) (a0 := (6, .inl (fun _ => 0))) hx hb (hts (.arrayClass .int) (by decide +kernel)) rfl hK hP hD hS hA (fun _ => rfl) (by decide) (by decide) (by decide) (Nat.le_of_ble_eq_true rfl) (Nat.le_of_ble_eq_true rfl) dX5_init_29 (fun q2 cA H hK2 hP hD hS => ?_)
  have ecA := (newcy hK2).symm
  subst ecA
  clear hK2
  replace hP : va_P (dC, dI) vwCl [(h0, .inr (5, [.int (8 : Int32), .ref q0, .ref q1, .null, .int 0, .null, .null, .long 0, .long 0, .long 0, .long 0])), (q0, .inl (cy, 8, .inl (fun _ => 0))), (q1, .inl (cy, 8, .inl (fun _ => 0))), (q2, .inl (cy, 6, .inl (fun _ => 0)))] H := hP
  replace hD : va_D A [(h0, .inr (5, [.int (8 : Int32), .ref q0, .ref q1, .null, .int 0, .null, .null, .long 0, .long 0, .long 0, .long 0])), (q0, .inl (cy, 8, .inl (fun _ => 0))), (q1, .inl (cy, 8, .inl (fun _ => 0))), (q2, .inl (cy, 6, .inl (fun _ => 0)))] := hD
  refine W.widen (k := 3) (n := 22) (by omega) (by omega) ?_
  refine va_putF (D := (dC, dI)) (ci := 5) (v := .ref q2) (ty := .array .int) (C := RX5) (T := TX5) (N := 11) hx hb hts (by decide +kernel) tyX5 tyX5_ok nmX5 hown hK hP hD hS 0 rfl rfl 3 (by decide) (hts (.fieldLink RX5 20 "FewLooksModel" "joined" "[I") (by decide +kernel)) (fun _ h9 => h9) rfl hin rfl (by decide +kernel) rfl rfl (Nat.le_of_ble_eq_true rfl) dX5_init_31 (fun H locs hP hD hS => ?_)
  replace hP : va_P (dC, dI) vwCl [(h0, .inr (5, [.int (8 : Int32), .ref q0, .ref q1, .ref q2, .int 0, .null, .null, .long 0, .long 0, .long 0, .long 0])), (q0, .inl (cy, 8, .inl (fun _ => 0))), (q1, .inl (cy, 8, .inl (fun _ => 0))), (q2, .inl (cy, 6, .inl (fun _ => 0)))] H := hP
  replace hD : va_D A [(h0, .inr (5, [.int (8 : Int32), .ref q0, .ref q1, .ref q2, .int 0, .null, .null, .long 0, .long 0, .long 0, .long 0])), (q0, .inl (cy, 8, .inl (fun _ => 0))), (q1, .inl (cy, 8, .inl (fun _ => 0))), (q2, .inl (cy, 6, .inl (fun _ => 0)))] := hD
  refine lv_aload_n hx hb dX5_init_34 rfl (lv_at hl 0 rfl) ?_
  refine lv_iconst (v := (3 : Int32)) hx hb dX5_init_35 (by decide) ?_
  refine va_put (D := (dC, dI)) (ci := 5) (v := .int (3 : Int32)) (ty := .int) (C := RX5) (T := TX5) (N := 11) hx hb hts (by decide +kernel) tyX5 tyX5_ok nmX5 hown hK hP hD hS 0 rfl rfl 4 (by decide) (hts (.fieldLink RX5 23 "FewLooksModel" "k" "I") (by decide +kernel)) (fun _ h9 => h9) rfl (by decide +kernel) rfl rfl (Nat.le_of_ble_eq_true rfl) dX5_init_36 (fun H locs hP hD hS => ?_)
  replace hP : va_P (dC, dI) vwCl [(h0, .inr (5, [.int (8 : Int32), .ref q0, .ref q1, .ref q2, .int (3 : Int32), .null, .null, .long 0, .long 0, .long 0, .long 0])), (q0, .inl (cy, 8, .inl (fun _ => 0))), (q1, .inl (cy, 8, .inl (fun _ => 0))), (q2, .inl (cy, 6, .inl (fun _ => 0)))] H := hP
  replace hD : va_D A [(h0, .inr (5, [.int (8 : Int32), .ref q0, .ref q1, .ref q2, .int (3 : Int32), .null, .null, .long 0, .long 0, .long 0, .long 0])), (q0, .inl (cy, 8, .inl (fun _ => 0))), (q1, .inl (cy, 8, .inl (fun _ => 0))), (q2, .inl (cy, 6, .inl (fun _ => 0)))] := hD
  refine lv_aload_n hx hb dX5_init_39 rfl (lv_at hl 0 rfl) ?_
  refine lv_bipush (v := (8 : Int32)) hx hb dX5_init_40 (by decide) ?_
  refine va_newa (atype := .int) (ty := .int) (N' := 8) (a0 := (8, .inl (fun _ => 0))) hx hb (hts (.arrayClass .int) (by decide +kernel)) rfl hK hP hD hS hA (fun _ => rfl) (by decide) (by decide) (by decide) (Nat.le_of_ble_eq_true rfl) (Nat.le_of_ble_eq_true rfl) dX5_init_42 (fun q3 cA H hK2 hP hD hS => ?_)
  have ecA := (newcy hK2).symm
  subst ecA
  clear hK2
  replace hP : va_P (dC, dI) vwCl [(h0, .inr (5, [.int (8 : Int32), .ref q0, .ref q1, .ref q2, .int (3 : Int32), .null, .null, .long 0, .long 0, .long 0, .long 0])), (q0, .inl (cy, 8, .inl (fun _ => 0))), (q1, .inl (cy, 8, .inl (fun _ => 0))), (q2, .inl (cy, 6, .inl (fun _ => 0))), (q3, .inl (cy, 8, .inl (fun _ => 0)))] H := hP
  replace hD : va_D A [(h0, .inr (5, [.int (8 : Int32), .ref q0, .ref q1, .ref q2, .int (3 : Int32), .null, .null, .long 0, .long 0, .long 0, .long 0])), (q0, .inl (cy, 8, .inl (fun _ => 0))), (q1, .inl (cy, 8, .inl (fun _ => 0))), (q2, .inl (cy, 6, .inl (fun _ => 0))), (q3, .inl (cy, 8, .inl (fun _ => 0)))] := hD
  refine W.widen (k := 4) (n := 30) (by omega) (by omega) ?_
  refine va_putF (D := (dC, dI)) (ci := 5) (v := .ref q3) (ty := .array .int) (C := RX5) (T := TX5) (N := 11) hx hb hts (by decide +kernel) tyX5 tyX5_ok nmX5 hown hK hP hD hS 0 rfl rfl 5 (by decide) (hts (.fieldLink RX5 26 "FewLooksModel" "it" "[I") (by decide +kernel)) (fun _ h9 => h9) rfl hin rfl (by decide +kernel) rfl rfl (Nat.le_of_ble_eq_true rfl) dX5_init_44 (fun H locs hP hD hS => ?_)
  replace hP : va_P (dC, dI) vwCl [(h0, .inr (5, [.int (8 : Int32), .ref q0, .ref q1, .ref q2, .int (3 : Int32), .ref q3, .null, .long 0, .long 0, .long 0, .long 0])), (q0, .inl (cy, 8, .inl (fun _ => 0))), (q1, .inl (cy, 8, .inl (fun _ => 0))), (q2, .inl (cy, 6, .inl (fun _ => 0))), (q3, .inl (cy, 8, .inl (fun _ => 0)))] H := hP
  replace hD : va_D A [(h0, .inr (5, [.int (8 : Int32), .ref q0, .ref q1, .ref q2, .int (3 : Int32), .ref q3, .null, .long 0, .long 0, .long 0, .long 0])), (q0, .inl (cy, 8, .inl (fun _ => 0))), (q1, .inl (cy, 8, .inl (fun _ => 0))), (q2, .inl (cy, 6, .inl (fun _ => 0))), (q3, .inl (cy, 8, .inl (fun _ => 0)))] := hD
  refine lv_aload_n hx hb dX5_init_47 rfl (lv_at hl 0 rfl) ?_
  refine lv_bipush (v := (8 : Int32)) hx hb dX5_init_48 (by decide) ?_
  refine va_newa (atype := .int) (ty := .int) (N' := 8) (a0 := (8, .inl (fun _ => 0))) hx hb (hts (.arrayClass .int) (by decide +kernel)) rfl hK hP hD hS hA (fun _ => rfl) (by decide) (by decide) (by decide) (Nat.le_of_ble_eq_true rfl) (Nat.le_of_ble_eq_true rfl) dX5_init_50 (fun q4 cA H hK2 hP hD hS => ?_)
  have ecA := (newcy hK2).symm
  subst ecA
  clear hK2
  replace hP : va_P (dC, dI) vwCl [(h0, .inr (5, [.int (8 : Int32), .ref q0, .ref q1, .ref q2, .int (3 : Int32), .ref q3, .null, .long 0, .long 0, .long 0, .long 0])), (q0, .inl (cy, 8, .inl (fun _ => 0))), (q1, .inl (cy, 8, .inl (fun _ => 0))), (q2, .inl (cy, 6, .inl (fun _ => 0))), (q3, .inl (cy, 8, .inl (fun _ => 0))), (q4, .inl (cy, 8, .inl (fun _ => 0)))] H := hP
  replace hD : va_D A [(h0, .inr (5, [.int (8 : Int32), .ref q0, .ref q1, .ref q2, .int (3 : Int32), .ref q3, .null, .long 0, .long 0, .long 0, .long 0])), (q0, .inl (cy, 8, .inl (fun _ => 0))), (q1, .inl (cy, 8, .inl (fun _ => 0))), (q2, .inl (cy, 6, .inl (fun _ => 0))), (q3, .inl (cy, 8, .inl (fun _ => 0))), (q4, .inl (cy, 8, .inl (fun _ => 0)))] := hD
  refine W.widen (k := 5) (n := 38) (by omega) (by omega) ?_
  refine va_putF (D := (dC, dI)) (ci := 5) (v := .ref q4) (ty := .array .int) (C := RX5) (T := TX5) (N := 11) hx hb hts (by decide +kernel) tyX5 tyX5_ok nmX5 hown hK hP hD hS 0 rfl rfl 6 (by decide) (hts (.fieldLink RX5 29 "FewLooksModel" "rise" "[I") (by decide +kernel)) (fun _ h9 => h9) rfl hin rfl (by decide +kernel) rfl rfl (Nat.le_of_ble_eq_true rfl) dX5_init_52 (fun H locs hP hD hS => ?_)
  replace hP : va_P (dC, dI) vwCl [(h0, .inr (5, [.int (8 : Int32), .ref q0, .ref q1, .ref q2, .int (3 : Int32), .ref q3, .ref q4, .long 0, .long 0, .long 0, .long 0])), (q0, .inl (cy, 8, .inl (fun _ => 0))), (q1, .inl (cy, 8, .inl (fun _ => 0))), (q2, .inl (cy, 6, .inl (fun _ => 0))), (q3, .inl (cy, 8, .inl (fun _ => 0))), (q4, .inl (cy, 8, .inl (fun _ => 0)))] H := hP
  replace hD : va_D A [(h0, .inr (5, [.int (8 : Int32), .ref q0, .ref q1, .ref q2, .int (3 : Int32), .ref q3, .ref q4, .long 0, .long 0, .long 0, .long 0])), (q0, .inl (cy, 8, .inl (fun _ => 0))), (q1, .inl (cy, 8, .inl (fun _ => 0))), (q2, .inl (cy, 6, .inl (fun _ => 0))), (q3, .inl (cy, 8, .inl (fun _ => 0))), (q4, .inl (cy, 8, .inl (fun _ => 0)))] := hD
  replace hP := hP.sub (ws' := [(h0, .inr (5, [.int (8 : Int32), .ref q0, .ref q1, .ref q2, .int (3 : Int32), .ref q3, .ref q4, .long 0, .long 0, .long 0, .long 0])), (q0, .inl (cy, 8, .inl (fun _ => 0))), (q1, .inl (cy, 8, .inl (fun _ => 0))), (q2, .inl (cy, 6, .inl (fun _ => 0))), (q3, .inl (cy, 8, .inl (fun _ => 0))), (q4, .inl (cy, 8, .inl (fun _ => 0)))]) [0, 1, 2, 3, 4, 5] rfl
  replace hD := hD.sub (ws' := [(h0, .inr (5, [.int (8 : Int32), .ref q0, .ref q1, .ref q2, .int (3 : Int32), .ref q3, .ref q4, .long 0, .long 0, .long 0, .long 0])), (q0, .inl (cy, 8, .inl (fun _ => 0))), (q1, .inl (cy, 8, .inl (fun _ => 0))), (q2, .inl (cy, 6, .inl (fun _ => 0))), (q3, .inl (cy, 8, .inl (fun _ => 0))), (q4, .inl (cy, 8, .inl (fun _ => 0)))]) [0, 1, 2, 3, 4, 5] (by decide) rfl
  refine W.widen (k := 5) (n := 38) (Nat.le_of_ble_eq_true rfl) (Nat.le_of_ble_eq_true rfl) ?_
  exact W.vret hx hb hr (fun t ht hW => ⟨⟨(fun k => [q0, q1, q2, q3, q4].getD k 0), rfl, trivial, QW_mk hP hK hD ht hW⟩, hS.F ht⟩) hS.2.2 dX5_init_55
