noncomputable def fJ6_bitCount_0f7a4  (p0 : Int32) : Option (Int32) := some ((((((((p0 - (((p0.toUInt32 >>> ((1 : Int32).toUInt32 &&& Int32.toUInt32 31)).toInt32) &&& (1431655765 : Int32))) &&& (858993459 : Int32)) + ((((p0 - (((p0.toUInt32 >>> ((1 : Int32).toUInt32 &&& Int32.toUInt32 31)).toInt32) &&& (1431655765 : Int32))).toUInt32 >>> ((2 : Int32).toUInt32 &&& Int32.toUInt32 31)).toInt32) &&& (858993459 : Int32))) + (((((p0 - (((p0.toUInt32 >>> ((1 : Int32).toUInt32 &&& Int32.toUInt32 31)).toInt32) &&& (1431655765 : Int32))) &&& (858993459 : Int32)) + ((((p0 - (((p0.toUInt32 >>> ((1 : Int32).toUInt32 &&& Int32.toUInt32 31)).toInt32) &&& (1431655765 : Int32))).toUInt32 >>> ((2 : Int32).toUInt32 &&& Int32.toUInt32 31)).toInt32) &&& (858993459 : Int32))).toUInt32 >>> ((4 : Int32).toUInt32 &&& Int32.toUInt32 31)).toInt32)) &&& (252645135 : Int32)) + (((((((p0 - (((p0.toUInt32 >>> ((1 : Int32).toUInt32 &&& Int32.toUInt32 31)).toInt32) &&& (1431655765 : Int32))) &&& (858993459 : Int32)) + ((((p0 - (((p0.toUInt32 >>> ((1 : Int32).toUInt32 &&& Int32.toUInt32 31)).toInt32) &&& (1431655765 : Int32))).toUInt32 >>> ((2 : Int32).toUInt32 &&& Int32.toUInt32 31)).toInt32) &&& (858993459 : Int32))) + (((((p0 - (((p0.toUInt32 >>> ((1 : Int32).toUInt32 &&& Int32.toUInt32 31)).toInt32) &&& (1431655765 : Int32))) &&& (858993459 : Int32)) + ((((p0 - (((p0.toUInt32 >>> ((1 : Int32).toUInt32 &&& Int32.toUInt32 31)).toInt32) &&& (1431655765 : Int32))).toUInt32 >>> ((2 : Int32).toUInt32 &&& Int32.toUInt32 31)).toInt32) &&& (858993459 : Int32))).toUInt32 >>> ((4 : Int32).toUInt32 &&& Int32.toUInt32 31)).toInt32)) &&& (252645135 : Int32)).toUInt32 >>> ((8 : Int32).toUInt32 &&& Int32.toUInt32 31)).toInt32)) + ((((((((p0 - (((p0.toUInt32 >>> ((1 : Int32).toUInt32 &&& Int32.toUInt32 31)).toInt32) &&& (1431655765 : Int32))) &&& (858993459 : Int32)) + ((((p0 - (((p0.toUInt32 >>> ((1 : Int32).toUInt32 &&& Int32.toUInt32 31)).toInt32) &&& (1431655765 : Int32))).toUInt32 >>> ((2 : Int32).toUInt32 &&& Int32.toUInt32 31)).toInt32) &&& (858993459 : Int32))) + (((((p0 - (((p0.toUInt32 >>> ((1 : Int32).toUInt32 &&& Int32.toUInt32 31)).toInt32) &&& (1431655765 : Int32))) &&& (858993459 : Int32)) + ((((p0 - (((p0.toUInt32 >>> ((1 : Int32).toUInt32 &&& Int32.toUInt32 31)).toInt32) &&& (1431655765 : Int32))).toUInt32 >>> ((2 : Int32).toUInt32 &&& Int32.toUInt32 31)).toInt32) &&& (858993459 : Int32))).toUInt32 >>> ((4 : Int32).toUInt32 &&& Int32.toUInt32 31)).toInt32)) &&& (252645135 : Int32)) + (((((((p0 - (((p0.toUInt32 >>> ((1 : Int32).toUInt32 &&& Int32.toUInt32 31)).toInt32) &&& (1431655765 : Int32))) &&& (858993459 : Int32)) + ((((p0 - (((p0.toUInt32 >>> ((1 : Int32).toUInt32 &&& Int32.toUInt32 31)).toInt32) &&& (1431655765 : Int32))).toUInt32 >>> ((2 : Int32).toUInt32 &&& Int32.toUInt32 31)).toInt32) &&& (858993459 : Int32))) + (((((p0 - (((p0.toUInt32 >>> ((1 : Int32).toUInt32 &&& Int32.toUInt32 31)).toInt32) &&& (1431655765 : Int32))) &&& (858993459 : Int32)) + ((((p0 - (((p0.toUInt32 >>> ((1 : Int32).toUInt32 &&& Int32.toUInt32 31)).toInt32) &&& (1431655765 : Int32))).toUInt32 >>> ((2 : Int32).toUInt32 &&& Int32.toUInt32 31)).toInt32) &&& (858993459 : Int32))).toUInt32 >>> ((4 : Int32).toUInt32 &&& Int32.toUInt32 31)).toInt32)) &&& (252645135 : Int32)).toUInt32 >>> ((8 : Int32).toUInt32 &&& Int32.toUInt32 31)).toInt32)).toUInt32 >>> ((16 : Int32).toUInt32 &&& Int32.toUInt32 31)).toInt32)) &&& (63 : Int32))
set_option maxHeartbeats 4000000 in
set_option maxRecDepth 100000 in
theorem c_J6_bitCount_0f7a4 (l : Launch) (dC : Nat → ClassId) (dI : Nat → Nat → Nat) (cy : ClassId)  (sz : Nat)  (p0 : Int32) (res : Int32) (h : fJ6_bitCount_0f7a4 p0 = some res) : Met l yJ6_bitCount_0f7a4 wsJ6_bitCount_0f7a4 ({ frames := 0, cells := 0, slots := 0, locals := 0 }) (va_Pc [.int p0] (PW (dC, dI) cy sz [])) (va_Qi (fun (r : Int32) (_ : Unit) => r = res) (QW (dC, dI) cy (va_A [] sz) []) (va_A [] sz)) 0 0 (va_A [] sz) := by
  refine Met.ofW (cc := cJ6_bitCount_0f7a4) (maxL := 1) (ret := (some .int)) (by decide) rfl ?_
  intro p e s m args below meth c s₁ B hml hv
  obtain ⟨rfl, hsz, hP, hK, hD0, hN⟩ := hv
  have hx := B.exec
  have hb := B.bytes
  have hr := B.returns
  have hts := atoms_spec (ws := wsJ6_bitCount_0f7a4) B.pre
  have hown : s.vm.findClass RJ6 = some m.cls := findClass_of_methodNamed B.named
  have hlocks := B.notSynchronized
  subst hsz
  have hD := hD0.self (sz := s.heap.size)
  clear hD0
  generalize hAe : va_A [] s.heap.size = A at hD ⊢
  have hA : ∀ q : Nat, s.heap.size ≤ q → A q := fun q h => by rw [← hAe]; exact Or.inr h
  have hS : va_S A s.heap s.heap [] := va_S.rf
  have hl := lv_entry ([.int p0]) (n := 1) (Nat.le_of_ble_eq_true rfl)
  rw [lg_entry_eq]
  generalize (lg_sl ([.int p0]) ++ List.replicate (1 - (lg_sl ([.int p0])).length) Slot.unset).toArray = ls at hl ⊢
  replace hl : lv_has ls 1 [(0, .int p0)] := hl
  replace hP : va_P (dC, dI) vwCl [] s.heap := hP
  obtain ⟨locs, hlocs⟩ : ∃ lc : List Loc, lc = [] := ⟨_, rfl⟩
  rw [← hlocs] at hS ⊢
  obtain ⟨H, hH⟩ : ∃ H : Heap, H = s.heap := ⟨_, rfl⟩
  have hP2 := hP; rw [← hH] at hP2
  have hS2 : va_S A s.heap H locs := by rw [hH]; exact hS
  suffices hgo : W p l e (headSpec wsJ6_bitCount_0f7a4 ({ frames := 0, cells := 0, slots := 0, locals := 0 })).room s m (([.int p0] : List Value).toArray) below meth c H locs 0 0 (MQ below (va_Qi (fun (r : Int32) (_ : Unit) => r = res) (QW (dC, dI) cy A []) A) (([.int p0] : List Value).toArray) s 0 0 A) (F0 m 0 ls []) by rw [hH] at hgo; exact hgo
  replace hP := hP2
  replace hS := hS2
  clear hP2 hS2
  unfold fJ6_bitCount_0f7a4 at h
  refine lv_iload_n hx hb dJ6_bitCount_0f7a4_0 rfl (lv_at hl 0 rfl) ?_
  refine lv_iload_n hx hb dJ6_bitCount_0f7a4_1 rfl (lv_at hl 0 rfl) ?_
  refine lv_iconst (v := (1 : Int32)) hx hb dJ6_bitCount_0f7a4_2 (by decide) ?_
  refine lv_iushr (v := (p0.toUInt32 >>> ((1 : Int32).toUInt32 &&& Int32.toUInt32 31)).toInt32) hx hb dJ6_bitCount_0f7a4_3 rfl ?_
  refine lv_ldcw (v := (1431655765 : Int32)) hx hb hown (hts (.constant RJ6 265 (1431655765)) (by decide +kernel)) dJ6_bitCount_0f7a4_4 ?_
  refine lv_iand hx hb dJ6_bitCount_0f7a4_7 ?_
  refine lv_isub hx hb dJ6_bitCount_0f7a4_8 ?_
  refine lv_istore_n (lv' := [(0, .int (p0 - (((p0.toUInt32 >>> ((1 : Int32).toUInt32 &&& Int32.toUInt32 31)).toInt32) &&& (1431655765 : Int32))))]) hx hb dJ6_bitCount_0f7a4_9 rfl hl (by decide) rfl (fun ls hl => ?_)
  refine lv_iload_n hx hb dJ6_bitCount_0f7a4_10 rfl (lv_at hl 0 rfl) ?_
  refine lv_ldcw (v := (858993459 : Int32)) hx hb hown (hts (.constant RJ6 266 (858993459)) (by decide +kernel)) dJ6_bitCount_0f7a4_11 ?_
  refine lv_iand hx hb dJ6_bitCount_0f7a4_14 ?_
  refine lv_iload_n hx hb dJ6_bitCount_0f7a4_15 rfl (lv_at hl 0 rfl) ?_
  refine lv_iconst (v := (2 : Int32)) hx hb dJ6_bitCount_0f7a4_16 (by decide) ?_
  refine lv_iushr (v := ((p0 - (((p0.toUInt32 >>> ((1 : Int32).toUInt32 &&& Int32.toUInt32 31)).toInt32) &&& (1431655765 : Int32))).toUInt32 >>> ((2 : Int32).toUInt32 &&& Int32.toUInt32 31)).toInt32) hx hb dJ6_bitCount_0f7a4_17 rfl ?_
  refine lv_ldcw (v := (858993459 : Int32)) hx hb hown (hts (.constant RJ6 266 (858993459)) (by decide +kernel)) dJ6_bitCount_0f7a4_18 ?_
  refine lv_iand hx hb dJ6_bitCount_0f7a4_21 ?_
  refine lv_iadd hx hb dJ6_bitCount_0f7a4_22 ?_
  refine lv_istore_n (lv' := [(0, .int (((p0 - (((p0.toUInt32 >>> ((1 : Int32).toUInt32 &&& Int32.toUInt32 31)).toInt32) &&& (1431655765 : Int32))) &&& (858993459 : Int32)) + ((((p0 - (((p0.toUInt32 >>> ((1 : Int32).toUInt32 &&& Int32.toUInt32 31)).toInt32) &&& (1431655765 : Int32))).toUInt32 >>> ((2 : Int32).toUInt32 &&& Int32.toUInt32 31)).toInt32) &&& (858993459 : Int32))))]) hx hb dJ6_bitCount_0f7a4_23 rfl hl (by decide) rfl (fun ls hl => ?_)
  refine lv_iload_n hx hb dJ6_bitCount_0f7a4_24 rfl (lv_at hl 0 rfl) ?_
  refine lv_iload_n hx hb dJ6_bitCount_0f7a4_25 rfl (lv_at hl 0 rfl) ?_
  refine lv_iconst (v := (4 : Int32)) hx hb dJ6_bitCount_0f7a4_26 (by decide) ?_
  refine lv_iushr (v := ((((p0 - (((p0.toUInt32 >>> ((1 : Int32).toUInt32 &&& Int32.toUInt32 31)).toInt32) &&& (1431655765 : Int32))) &&& (858993459 : Int32)) + ((((p0 - (((p0.toUInt32 >>> ((1 : Int32).toUInt32 &&& Int32.toUInt32 31)).toInt32) &&& (1431655765 : Int32))).toUInt32 >>> ((2 : Int32).toUInt32 &&& Int32.toUInt32 31)).toInt32) &&& (858993459 : Int32))).toUInt32 >>> ((4 : Int32).toUInt32 &&& Int32.toUInt32 31)).toInt32) hx hb dJ6_bitCount_0f7a4_27 rfl ?_
  refine lv_iadd hx hb dJ6_bitCount_0f7a4_28 ?_
  refine lv_ldcw (v := (252645135 : Int32)) hx hb hown (hts (.constant RJ6 267 (252645135)) (by decide +kernel)) dJ6_bitCount_0f7a4_29 ?_
  refine lv_iand hx hb dJ6_bitCount_0f7a4_32 ?_
  refine lv_istore_n (lv' := [(0, .int (((((p0 - (((p0.toUInt32 >>> ((1 : Int32).toUInt32 &&& Int32.toUInt32 31)).toInt32) &&& (1431655765 : Int32))) &&& (858993459 : Int32)) + ((((p0 - (((p0.toUInt32 >>> ((1 : Int32).toUInt32 &&& Int32.toUInt32 31)).toInt32) &&& (1431655765 : Int32))).toUInt32 >>> ((2 : Int32).toUInt32 &&& Int32.toUInt32 31)).toInt32) &&& (858993459 : Int32))) + (((((p0 - (((p0.toUInt32 >>> ((1 : Int32).toUInt32 &&& Int32.toUInt32 31)).toInt32) &&& (1431655765 : Int32))) &&& (858993459 : Int32)) + ((((p0 - (((p0.toUInt32 >>> ((1 : Int32).toUInt32 &&& Int32.toUInt32 31)).toInt32) &&& (1431655765 : Int32))).toUInt32 >>> ((2 : Int32).toUInt32 &&& Int32.toUInt32 31)).toInt32) &&& (858993459 : Int32))).toUInt32 >>> ((4 : Int32).toUInt32 &&& Int32.toUInt32 31)).toInt32)) &&& (252645135 : Int32)))]) hx hb dJ6_bitCount_0f7a4_33 rfl hl (by decide) rfl (fun ls hl => ?_)
  refine lv_iload_n hx hb dJ6_bitCount_0f7a4_34 rfl (lv_at hl 0 rfl) ?_
  refine lv_iload_n hx hb dJ6_bitCount_0f7a4_35 rfl (lv_at hl 0 rfl) ?_
  refine lv_bipush (v := (8 : Int32)) hx hb dJ6_bitCount_0f7a4_36 (by decide) ?_
  refine lv_iushr (v := ((((((p0 - (((p0.toUInt32 >>> ((1 : Int32).toUInt32 &&& Int32.toUInt32 31)).toInt32) &&& (1431655765 : Int32))) &&& (858993459 : Int32)) + ((((p0 - (((p0.toUInt32 >>> ((1 : Int32).toUInt32 &&& Int32.toUInt32 31)).toInt32) &&& (1431655765 : Int32))).toUInt32 >>> ((2 : Int32).toUInt32 &&& Int32.toUInt32 31)).toInt32) &&& (858993459 : Int32))) + (((((p0 - (((p0.toUInt32 >>> ((1 : Int32).toUInt32 &&& Int32.toUInt32 31)).toInt32) &&& (1431655765 : Int32))) &&& (858993459 : Int32)) + ((((p0 - (((p0.toUInt32 >>> ((1 : Int32).toUInt32 &&& Int32.toUInt32 31)).toInt32) &&& (1431655765 : Int32))).toUInt32 >>> ((2 : Int32).toUInt32 &&& Int32.toUInt32 31)).toInt32) &&& (858993459 : Int32))).toUInt32 >>> ((4 : Int32).toUInt32 &&& Int32.toUInt32 31)).toInt32)) &&& (252645135 : Int32)).toUInt32 >>> ((8 : Int32).toUInt32 &&& Int32.toUInt32 31)).toInt32) hx hb dJ6_bitCount_0f7a4_38 rfl ?_
  refine lv_iadd hx hb dJ6_bitCount_0f7a4_39 ?_
  refine lv_istore_n (lv' := [(0, .int ((((((p0 - (((p0.toUInt32 >>> ((1 : Int32).toUInt32 &&& Int32.toUInt32 31)).toInt32) &&& (1431655765 : Int32))) &&& (858993459 : Int32)) + ((((p0 - (((p0.toUInt32 >>> ((1 : Int32).toUInt32 &&& Int32.toUInt32 31)).toInt32) &&& (1431655765 : Int32))).toUInt32 >>> ((2 : Int32).toUInt32 &&& Int32.toUInt32 31)).toInt32) &&& (858993459 : Int32))) + (((((p0 - (((p0.toUInt32 >>> ((1 : Int32).toUInt32 &&& Int32.toUInt32 31)).toInt32) &&& (1431655765 : Int32))) &&& (858993459 : Int32)) + ((((p0 - (((p0.toUInt32 >>> ((1 : Int32).toUInt32 &&& Int32.toUInt32 31)).toInt32) &&& (1431655765 : Int32))).toUInt32 >>> ((2 : Int32).toUInt32 &&& Int32.toUInt32 31)).toInt32) &&& (858993459 : Int32))).toUInt32 >>> ((4 : Int32).toUInt32 &&& Int32.toUInt32 31)).toInt32)) &&& (252645135 : Int32)) + (((((((p0 - (((p0.toUInt32 >>> ((1 : Int32).toUInt32 &&& Int32.toUInt32 31)).toInt32) &&& (1431655765 : Int32))) &&& (858993459 : Int32)) + ((((p0 - (((p0.toUInt32 >>> ((1 : Int32).toUInt32 &&& Int32.toUInt32 31)).toInt32) &&& (1431655765 : Int32))).toUInt32 >>> ((2 : Int32).toUInt32 &&& Int32.toUInt32 31)).toInt32) &&& (858993459 : Int32))) + (((((p0 - (((p0.toUInt32 >>> ((1 : Int32).toUInt32 &&& Int32.toUInt32 31)).toInt32) &&& (1431655765 : Int32))) &&& (858993459 : Int32)) + ((((p0 - (((p0.toUInt32 >>> ((1 : Int32).toUInt32 &&& Int32.toUInt32 31)).toInt32) &&& (1431655765 : Int32))).toUInt32 >>> ((2 : Int32).toUInt32 &&& Int32.toUInt32 31)).toInt32) &&& (858993459 : Int32))).toUInt32 >>> ((4 : Int32).toUInt32 &&& Int32.toUInt32 31)).toInt32)) &&& (252645135 : Int32)).toUInt32 >>> ((8 : Int32).toUInt32 &&& Int32.toUInt32 31)).toInt32)))]) hx hb dJ6_bitCount_0f7a4_40 rfl hl (by decide) rfl (fun ls hl => ?_)
  refine lv_iload_n hx hb dJ6_bitCount_0f7a4_41 rfl (lv_at hl 0 rfl) ?_
  refine lv_iload_n hx hb dJ6_bitCount_0f7a4_42 rfl (lv_at hl 0 rfl) ?_
  refine lv_bipush (v := (16 : Int32)) hx hb dJ6_bitCount_0f7a4_43 (by decide) ?_
  refine lv_iushr (v := (((((((p0 - (((p0.toUInt32 >>> ((1 : Int32).toUInt32 &&& Int32.toUInt32 31)).toInt32) &&& (1431655765 : Int32))) &&& (858993459 : Int32)) + ((((p0 - (((p0.toUInt32 >>> ((1 : Int32).toUInt32 &&& Int32.toUInt32 31)).toInt32) &&& (1431655765 : Int32))).toUInt32 >>> ((2 : Int32).toUInt32 &&& Int32.toUInt32 31)).toInt32) &&& (858993459 : Int32))) + (((((p0 - (((p0.toUInt32 >>> ((1 : Int32).toUInt32 &&& Int32.toUInt32 31)).toInt32) &&& (1431655765 : Int32))) &&& (858993459 : Int32)) + ((((p0 - (((p0.toUInt32 >>> ((1 : Int32).toUInt32 &&& Int32.toUInt32 31)).toInt32) &&& (1431655765 : Int32))).toUInt32 >>> ((2 : Int32).toUInt32 &&& Int32.toUInt32 31)).toInt32) &&& (858993459 : Int32))).toUInt32 >>> ((4 : Int32).toUInt32 &&& Int32.toUInt32 31)).toInt32)) &&& (252645135 : Int32)) + (((((((p0 - (((p0.toUInt32 >>> ((1 : Int32).toUInt32 &&& Int32.toUInt32 31)).toInt32) &&& (1431655765 : Int32))) &&& (858993459 : Int32)) + ((((p0 - (((p0.toUInt32 >>> ((1 : Int32).toUInt32 &&& Int32.toUInt32 31)).toInt32) &&& (1431655765 : Int32))).toUInt32 >>> ((2 : Int32).toUInt32 &&& Int32.toUInt32 31)).toInt32) &&& (858993459 : Int32))) + (((((p0 - (((p0.toUInt32 >>> ((1 : Int32).toUInt32 &&& Int32.toUInt32 31)).toInt32) &&& (1431655765 : Int32))) &&& (858993459 : Int32)) + ((((p0 - (((p0.toUInt32 >>> ((1 : Int32).toUInt32 &&& Int32.toUInt32 31)).toInt32) &&& (1431655765 : Int32))).toUInt32 >>> ((2 : Int32).toUInt32 &&& Int32.toUInt32 31)).toInt32) &&& (858993459 : Int32))).toUInt32 >>> ((4 : Int32).toUInt32 &&& Int32.toUInt32 31)).toInt32)) &&& (252645135 : Int32)).toUInt32 >>> ((8 : Int32).toUInt32 &&& Int32.toUInt32 31)).toInt32)).toUInt32 >>> ((16 : Int32).toUInt32 &&& Int32.toUInt32 31)).toInt32) hx hb dJ6_bitCount_0f7a4_45 rfl ?_
  refine lv_iadd hx hb dJ6_bitCount_0f7a4_46 ?_
  refine lv_istore_n (lv' := [(0, .int (((((((p0 - (((p0.toUInt32 >>> ((1 : Int32).toUInt32 &&& Int32.toUInt32 31)).toInt32) &&& (1431655765 : Int32))) &&& (858993459 : Int32)) + ((((p0 - (((p0.toUInt32 >>> ((1 : Int32).toUInt32 &&& Int32.toUInt32 31)).toInt32) &&& (1431655765 : Int32))).toUInt32 >>> ((2 : Int32).toUInt32 &&& Int32.toUInt32 31)).toInt32) &&& (858993459 : Int32))) + (((((p0 - (((p0.toUInt32 >>> ((1 : Int32).toUInt32 &&& Int32.toUInt32 31)).toInt32) &&& (1431655765 : Int32))) &&& (858993459 : Int32)) + ((((p0 - (((p0.toUInt32 >>> ((1 : Int32).toUInt32 &&& Int32.toUInt32 31)).toInt32) &&& (1431655765 : Int32))).toUInt32 >>> ((2 : Int32).toUInt32 &&& Int32.toUInt32 31)).toInt32) &&& (858993459 : Int32))).toUInt32 >>> ((4 : Int32).toUInt32 &&& Int32.toUInt32 31)).toInt32)) &&& (252645135 : Int32)) + (((((((p0 - (((p0.toUInt32 >>> ((1 : Int32).toUInt32 &&& Int32.toUInt32 31)).toInt32) &&& (1431655765 : Int32))) &&& (858993459 : Int32)) + ((((p0 - (((p0.toUInt32 >>> ((1 : Int32).toUInt32 &&& Int32.toUInt32 31)).toInt32) &&& (1431655765 : Int32))).toUInt32 >>> ((2 : Int32).toUInt32 &&& Int32.toUInt32 31)).toInt32) &&& (858993459 : Int32))) + (((((p0 - (((p0.toUInt32 >>> ((1 : Int32).toUInt32 &&& Int32.toUInt32 31)).toInt32) &&& (1431655765 : Int32))) &&& (858993459 : Int32)) + ((((p0 - (((p0.toUInt32 >>> ((1 : Int32).toUInt32 &&& Int32.toUInt32 31)).toInt32) &&& (1431655765 : Int32))).toUInt32 >>> ((2 : Int32).toUInt32 &&& Int32.toUInt32 31)).toInt32) &&& (858993459 : Int32))).toUInt32 >>> ((4 : Int32).toUInt32 &&& Int32.toUInt32 31)).toInt32)) &&& (252645135 : Int32)).toUInt32 >>> ((8 : Int32).toUInt32 &&& Int32.toUInt32 31)).toInt32)) + ((((((((p0 - (((p0.toUInt32 >>> ((1 : Int32).toUInt32 &&& Int32.toUInt32 31)).toInt32) &&& (1431655765 : Int32))) &&& (858993459 : Int32)) + ((((p0 - (((p0.toUInt32 >>> ((1 : Int32).toUInt32 &&& Int32.toUInt32 31)).toInt32) &&& (1431655765 : Int32))).toUInt32 >>> ((2 : Int32).toUInt32 &&& Int32.toUInt32 31)).toInt32) &&& (858993459 : Int32))) + (((((p0 - (((p0.toUInt32 >>> ((1 : Int32).toUInt32 &&& Int32.toUInt32 31)).toInt32) &&& (1431655765 : Int32))) &&& (858993459 : Int32)) + ((((p0 - (((p0.toUInt32 >>> ((1 : Int32).toUInt32 &&& Int32.toUInt32 31)).toInt32) &&& (1431655765 : Int32))).toUInt32 >>> ((2 : Int32).toUInt32 &&& Int32.toUInt32 31)).toInt32) &&& (858993459 : Int32))).toUInt32 >>> ((4 : Int32).toUInt32 &&& Int32.toUInt32 31)).toInt32)) &&& (252645135 : Int32)) + (((((((p0 - (((p0.toUInt32 >>> ((1 : Int32).toUInt32 &&& Int32.toUInt32 31)).toInt32) &&& (1431655765 : Int32))) &&& (858993459 : Int32)) + ((((p0 - (((p0.toUInt32 >>> ((1 : Int32).toUInt32 &&& Int32.toUInt32 31)).toInt32) &&& (1431655765 : Int32))).toUInt32 >>> ((2 : Int32).toUInt32 &&& Int32.toUInt32 31)).toInt32) &&& (858993459 : Int32))) + (((((p0 - (((p0.toUInt32 >>> ((1 : Int32).toUInt32 &&& Int32.toUInt32 31)).toInt32) &&& (1431655765 : Int32))) &&& (858993459 : Int32)) + ((((p0 - (((p0.toUInt32 >>> ((1 : Int32).toUInt32 &&& Int32.toUInt32 31)).toInt32) &&& (1431655765 : Int32))).toUInt32 >>> ((2 : Int32).toUInt32 &&& Int32.toUInt32 31)).toInt32) &&& (858993459 : Int32))).toUInt32 >>> ((4 : Int32).toUInt32 &&& Int32.toUInt32 31)).toInt32)) &&& (252645135 : Int32)).toUInt32 >>> ((8 : Int32).toUInt32 &&& Int32.toUInt32 31)).toInt32)).toUInt32 >>> ((16 : Int32).toUInt32 &&& Int32.toUInt32 31)).toInt32)))]) hx hb dJ6_bitCount_0f7a4_47 rfl hl (by decide) rfl (fun ls hl => ?_)
  refine lv_iload_n hx hb dJ6_bitCount_0f7a4_48 rfl (lv_at hl 0 rfl) ?_
  refine lv_bipush (v := (63 : Int32)) hx hb dJ6_bitCount_0f7a4_49 (by decide) ?_
  refine lv_iand hx hb dJ6_bitCount_0f7a4_51 ?_
  have h0 := Option.some.inj h
  subst h0
  exact W.iret hx hb hr (fun t ht hW => ⟨⟨_, (), rfl, rfl, QW_mk hP hK hD ht hW⟩, hS.F ht⟩) hS.2.2 dJ6_bitCount_0f7a4_52

noncomputable def fX3_at (vxb : Int32) (p0 : Int32) : Option (Int32) := some ((vxb >>> (p0 &&& 31)) &&& (1 : Int32))
set_option maxHeartbeats 4000000 in
set_option maxRecDepth 100000 in
theorem c_X3_at (l : Launch) (dC : Nat → ClassId) (dI : Nat → Nat → Nat) (cy : ClassId) (ax : Nat) (sz : Nat) (vxb : Int32) (p0 : Int32) (res : Int32) (h : fX3_at vxb p0 = some res) : Met l yX3_at wsX3_at ({ frames := 0, cells := 0, slots := 0, locals := 0 }) (va_Pc [.ref ax, .int p0] (PW (dC, dI) cy sz [(ax, .inr (3, [.int vxb]))])) (va_Qi (fun (r : Int32) (_ : Unit) => r = res) (QW (dC, dI) cy (va_A [(ax, .inr (3, [.int vxb]))] sz) [(ax, .inr (3, [.int vxb]))]) (va_A [(ax, .inr (3, [.int vxb]))] sz)) 0 0 (va_A [(ax, .inr (3, [.int vxb]))] sz) := by
  refine Met.ofW (cc := cX3_at) (maxL := 2) (ret := (some .int)) (by decide) rfl ?_
  intro p e s m args below meth c s₁ B hml hv
  obtain ⟨rfl, hsz, hP, hK, hD0, hN⟩ := hv
  have hx := B.exec
  have hb := B.bytes
  have hr := B.returns
  have hts := atoms_spec (ws := wsX3_at) B.pre
  have hown : s.vm.findClass RX3 = some m.cls := findClass_of_methodNamed B.named
  have hlocks := B.notSynchronized
  subst hsz
  have hD := hD0.self (sz := s.heap.size)
  clear hD0
  generalize hAe : va_A [(ax, .inr (3, [.int vxb]))] s.heap.size = A at hD ⊢
  have hA : ∀ q : Nat, s.heap.size ≤ q → A q := fun q h => by rw [← hAe]; exact Or.inr h
  have hS : va_S A s.heap s.heap [] := va_S.rf
  have hl := lv_entry ([.ref ax, .int p0]) (n := 2) (Nat.le_of_ble_eq_true rfl)
  rw [lg_entry_eq]
  generalize (lg_sl ([.ref ax, .int p0]) ++ List.replicate (2 - (lg_sl ([.ref ax, .int p0])).length) Slot.unset).toArray = ls at hl ⊢
  replace hl : lv_has ls 2 [(0, .ref ax), (1, .int p0)] := hl
  replace hP : va_P (dC, dI) vwCl [(ax, .inr (3, [.int vxb]))] s.heap := hP
  obtain ⟨locs, hlocs⟩ : ∃ lc : List Loc, lc = [] := ⟨_, rfl⟩
  rw [← hlocs] at hS ⊢
  obtain ⟨H, hH⟩ : ∃ H : Heap, H = s.heap := ⟨_, rfl⟩
  have hP2 := hP; rw [← hH] at hP2
  have hS2 : va_S A s.heap H locs := by rw [hH]; exact hS
  suffices hgo : W p l e (headSpec wsX3_at ({ frames := 0, cells := 0, slots := 0, locals := 0 })).room s m (([.ref ax, .int p0] : List Value).toArray) below meth c H locs 0 0 (MQ below (va_Qi (fun (r : Int32) (_ : Unit) => r = res) (QW (dC, dI) cy A [(ax, .inr (3, [.int vxb]))]) A) (([.ref ax, .int p0] : List Value).toArray) s 0 0 A) (F0 m 0 ls []) by rw [hH] at hgo; exact hgo
  replace hP := hP2
  replace hS := hS2
  clear hP2 hS2
  have hin_X3 : ∀ w ∈ wsX30, w ∈ wsX3_at := by decide +kernel
  have hf_9 := hts (.fieldLink RX3 9 "FewLooks$Table" "bits" "I") (by decide +kernel)
  unfold fX3_at at h
  refine lv_aload_n hx hb dX3_at_0 rfl (lv_at hl 0 rfl) ?_
  refine va_get (D := (dC, dI)) (ci := 3) (v := .int vxb) (C := RX3) (T := TX3) (N := 1) hx hb hts hin_X3 hown hK hP 0 rfl rfl 0 (by decide) (hf_9) (fun _ h9 => h9) rfl dX3_at_1 ?_
  refine lv_iload_n hx hb dX3_at_4 rfl (lv_at hl 1 rfl) ?_
  refine lv_ishr hx hb dX3_at_5 ?_
  refine lv_iconst (v := (1 : Int32)) hx hb dX3_at_6 (by decide) ?_
  refine lv_iand hx hb dX3_at_7 ?_
  have h0 := Option.some.inj h
  subst h0
  exact W.iret hx hb hr (fun t ht hW => ⟨⟨_, (), rfl, rfl, QW_mk hP hK hD ht hW⟩, hS.F ht⟩) hS.2.2 dX3_at_8

noncomputable def fX3_put (vxb : Int32) (p0 : Int32) (p1 : Int32) : Option (Int32) := some ((vxb &&& (((1 : Int32) <<< (p0 &&& 31)) ^^^ (-1 : Int32))) ||| (p1 <<< (p0 &&& 31)))
set_option maxHeartbeats 4000000 in
set_option maxRecDepth 100000 in
theorem c_X3_put (l : Launch) (dC : Nat → ClassId) (dI : Nat → Nat → Nat) (cy : ClassId) (ax : Nat) (sz : Nat) (vxb : Int32) (p0 : Int32) (p1 : Int32) (res : Int32) (h : fX3_put vxb p0 p1 = some res) : Met l yX3_put wsX3_put ({ frames := 0, cells := 0, slots := 0, locals := 0 }) (va_Pc [.ref ax, .int p0, .int p1] (PW (dC, dI) cy sz [(ax, .inr (3, [.int vxb]))])) (va_Qv (fun (_ : Unit) => True) (QW (dC, dI) cy (va_A [(ax, .inr (3, [.int vxb]))] sz) [(ax, .inr (3, [.int res]))]) (va_A [(ax, .inr (3, [.int vxb]))] sz)) 0 0 (va_A [(ax, .inr (3, [.int vxb]))] sz) := by
  refine Met.ofW (cc := cX3_put) (maxL := 3) (ret := none) (by decide) rfl ?_
  intro p e s m args below meth c s₁ B hml hv
  obtain ⟨rfl, hsz, hP, hK, hD0, hN⟩ := hv
  have hx := B.exec
  have hb := B.bytes
  have hr := B.returns
  have hts := atoms_spec (ws := wsX3_put) B.pre
  have hown : s.vm.findClass RX3 = some m.cls := findClass_of_methodNamed B.named
  have hlocks := B.notSynchronized
  subst hsz
  have hD := hD0.self (sz := s.heap.size)
  clear hD0
  generalize hAe : va_A [(ax, .inr (3, [.int vxb]))] s.heap.size = A at hD ⊢
  have hA : ∀ q : Nat, s.heap.size ≤ q → A q := fun q h => by rw [← hAe]; exact Or.inr h
  have hS : va_S A s.heap s.heap [] := va_S.rf
  have hl := lv_entry ([.ref ax, .int p0, .int p1]) (n := 3) (Nat.le_of_ble_eq_true rfl)
  rw [lg_entry_eq]
  generalize (lg_sl ([.ref ax, .int p0, .int p1]) ++ List.replicate (3 - (lg_sl ([.ref ax, .int p0, .int p1])).length) Slot.unset).toArray = ls at hl ⊢
  replace hl : lv_has ls 3 [(0, .ref ax), (1, .int p0), (2, .int p1)] := hl
  replace hP : va_P (dC, dI) vwCl [(ax, .inr (3, [.int vxb]))] s.heap := hP
  obtain ⟨locs, hlocs⟩ : ∃ lc : List Loc, lc = [] := ⟨_, rfl⟩
  rw [← hlocs] at hS ⊢
  obtain ⟨H, hH⟩ : ∃ H : Heap, H = s.heap := ⟨_, rfl⟩
  have hP2 := hP; rw [← hH] at hP2
  have hS2 : va_S A s.heap H locs := by rw [hH]; exact hS
  suffices hgo : W p l e (headSpec wsX3_put ({ frames := 0, cells := 0, slots := 0, locals := 0 })).room s m (([.ref ax, .int p0, .int p1] : List Value).toArray) below meth c H locs 0 0 (MQ below (va_Qv (fun (_ : Unit) => True) (QW (dC, dI) cy A [(ax, .inr (3, [.int res]))]) A) (([.ref ax, .int p0, .int p1] : List Value).toArray) s 0 0 A) (F0 m 0 ls []) by rw [hH] at hgo; exact hgo
  replace hP := hP2
  replace hS := hS2
  clear hP2 hS2
  have hin_X3 : ∀ w ∈ wsX30, w ∈ wsX3_put := by decide +kernel
  have hf_9 := hts (.fieldLink RX3 9 "FewLooks$Table" "bits" "I") (by decide +kernel)
  unfold fX3_put at h
  refine lv_aload_n hx hb dX3_put_0 rfl (lv_at hl 0 rfl) ?_
  refine lv_aload_n hx hb dX3_put_1 rfl (lv_at hl 0 rfl) ?_
  refine va_get (D := (dC, dI)) (ci := 3) (v := .int vxb) (C := RX3) (T := TX3) (N := 1) hx hb hts hin_X3 hown hK hP 0 rfl rfl 0 (by decide) (hf_9) (fun _ h9 => h9) rfl dX3_put_2 ?_
  refine lv_iconst (v := (1 : Int32)) hx hb dX3_put_5 (by decide) ?_
  refine lv_iload_n hx hb dX3_put_6 rfl (lv_at hl 1 rfl) ?_
  refine lv_ishl hx hb dX3_put_7 ?_
  refine lv_iconst (v := (-1 : Int32)) hx hb dX3_put_8 (by decide) ?_
  refine lv_ixor hx hb dX3_put_9 ?_
  refine lv_iand hx hb dX3_put_10 ?_
  refine lv_iload_n hx hb dX3_put_11 rfl (lv_at hl 2 rfl) ?_
  refine lv_iload_n hx hb dX3_put_12 rfl (lv_at hl 1 rfl) ?_
  refine lv_ishl hx hb dX3_put_13 ?_
  refine lv_ior hx hb dX3_put_14 ?_
  refine va_put (D := (dC, dI)) (ci := 3) (v := .int ((vxb &&& (((1 : Int32) <<< (p0 &&& 31)) ^^^ (-1 : Int32))) ||| (p1 <<< (p0 &&& 31)))) (ty := .int) (C := RX3) (T := TX3) (N := 1) hx hb hts hin_X3 tyX3 tyX3_ok nmX3 hown hK hP hD hS 0 rfl rfl 0 (by decide) (hf_9) (fun _ h9 => h9) rfl (by decide +kernel) rfl rfl (Nat.le_of_ble_eq_true rfl) dX3_put_15 (fun H locs hP hD hS => ?_)
  replace hP : va_P (dC, dI) vwCl [(ax, .inr (3, [.int ((vxb &&& (((1 : Int32) <<< (p0 &&& 31)) ^^^ (-1 : Int32))) ||| (p1 <<< (p0 &&& 31)))]))] H := hP
  replace hD : va_D A [(ax, .inr (3, [.int ((vxb &&& (((1 : Int32) <<< (p0 &&& 31)) ^^^ (-1 : Int32))) ||| (p1 <<< (p0 &&& 31)))]))] := hD
  have h0 := Option.some.inj h
  subst h0
  exact W.vret hx hb hr (fun t ht hW => ⟨⟨(), rfl, trivial, QW_mk hP hK hD ht hW⟩, hS.F ht⟩) hS.2.2 dX3_put_18

noncomputable def fX3_parities_L4 (n : Nat) (l0 : Int32) (l1 : Int32) (l2 : Int32) : Option (Int32 × Int32) := match n with
  | 0 => none
  | n + 1 => if (8 : Int32) ≤ l2 then (some (l1, l2)) else (bd (fJ6_bitCount_0f7a4 (l0 &&& l2)) fun r1 => fX3_parities_L4 n l0 (l1 ||| ((r1 &&& (1 : Int32)) <<< (l2 &&& 31))) (l2 + (1 : Int32)))
theorem fX3_parities_L4_0 (l0 : Int32) (l1 : Int32) (l2 : Int32) : fX3_parities_L4 0 l0 l1 l2 = none := rfl
theorem fX3_parities_L4_s (n : Nat) (l0 : Int32) (l1 : Int32) (l2 : Int32) : fX3_parities_L4 (n + 1) l0 l1 l2 = if (8 : Int32) ≤ l2 then (some (l1, l2)) else (bd (fJ6_bitCount_0f7a4 (l0 &&& l2)) fun r1 => fX3_parities_L4 n l0 (l1 ||| ((r1 &&& (1 : Int32)) <<< (l2 &&& 31))) (l2 + (1 : Int32))) := rfl
noncomputable def fX3_parities  (p0 : Int32) : Option (Int32) := bd (fX3_parities_L4 FU p0 (0 : Int32) (0 : Int32)) fun q4 => some q4.1
set_option maxHeartbeats 4000000 in
set_option maxRecDepth 100000 in
theorem c_X3_parities (l : Launch) (dC : Nat → ClassId) (dI : Nat → Nat → Nat) (cy : ClassId)  (sz : Nat)  (p0 : Int32) (res : Int32) (h : fX3_parities p0 = some res) : Met l yX3_parities wsX3_parities ({ frames := 1, cells := 0, slots := 0, locals := 20 }) (va_Pc [.int p0] (PW (dC, dI) cy sz [])) (va_Qi (fun (r : Int32) (_ : Unit) => r = res) (QW (dC, dI) cy (va_A [] sz) []) (va_A [] sz)) 0 0 (va_A [] sz) := by
  refine Met.ofW (cc := cX3_parities) (maxL := 3) (ret := (some .int)) (by decide) rfl ?_
  intro p e s m args below meth c s₁ B hml hv
  obtain ⟨rfl, hsz, hP, hK, hD0, hN⟩ := hv
  have hx := B.exec
  have hb := B.bytes
  have hr := B.returns
  have hts := atoms_spec (ws := wsX3_parities) B.pre
  have hown : s.vm.findClass RX3 = some m.cls := findClass_of_methodNamed B.named
  have hlocks := B.notSynchronized
  subst hsz
  have hD := hD0.self (sz := s.heap.size)
  clear hD0
  generalize hAe : va_A [] s.heap.size = A at hD ⊢
  have hA : ∀ q : Nat, s.heap.size ≤ q → A q := fun q h => by rw [← hAe]; exact Or.inr h
  have hS : va_S A s.heap s.heap [] := va_S.rf
  have hl := lv_entry ([.int p0]) (n := 3) (Nat.le_of_ble_eq_true rfl)
  rw [lg_entry_eq]
  generalize (lg_sl ([.int p0]) ++ List.replicate (3 - (lg_sl ([.int p0])).length) Slot.unset).toArray = ls at hl ⊢
  replace hl : lv_has ls 3 [(0, .int p0)] := hl
  replace hP : va_P (dC, dI) vwCl [] s.heap := hP
  obtain ⟨locs, hlocs⟩ : ∃ lc : List Loc, lc = [] := ⟨_, rfl⟩
  rw [← hlocs] at hS ⊢
  obtain ⟨H, hH⟩ : ∃ H : Heap, H = s.heap := ⟨_, rfl⟩
  have hP2 := hP; rw [← hH] at hP2
  have hS2 : va_S A s.heap H locs := by rw [hH]; exact hS
  suffices hgo : W p l e (headSpec wsX3_parities ({ frames := 1, cells := 0, slots := 0, locals := 20 })).room s m (([.int p0] : List Value).toArray) below meth c H locs 0 0 (MQ below (va_Qi (fun (r : Int32) (_ : Unit) => r = res) (QW (dC, dI) cy A []) A) (([.int p0] : List Value).toArray) s 0 0 A) (F0 m 0 ls []) by rw [hH] at hgo; exact hgo
  replace hP := hP2
  replace hS := hS2
  clear hP2 hS2
  unfold fX3_parities at h
  refine lv_iconst (v := (0 : Int32)) hx hb dX3_parities_0 (by decide) ?_
  refine lv_istore_n (lv' := [(1, .int (0 : Int32)), (0, .int p0)]) hx hb dX3_parities_1 rfl hl (by decide) rfl (fun ls hl => ?_)
  refine lv_iconst (v := (0 : Int32)) hx hb dX3_parities_2 (by decide) ?_
  refine lv_istore_n (lv' := [(2, .int (0 : Int32)), (1, .int (0 : Int32)), (0, .int p0)]) hx hb dX3_parities_3 rfl hl (by decide) rfl (fun ls hl => ?_)
  have L4_2 : ∀ (n : Nat) (l0 : Int32) (l1 : Int32) (l2 : Int32) (rs : (Int32 × Int32)) (H : Heap) (locs : List Loc) (ls : Array Slot), fX3_parities_L4 n l0 l1 l2 = some rs → lv_has ls 3 [(0, .int l0), (1, .int l1), (2, .int l2)] → va_P (dC, dI) vwCl [] H → va_D A [] → va_S A s.heap H locs → (∀ (H : Heap) (locs : List Loc) (ls : Array Slot), lv_has ls 3 [(0, .int l0), (1, .int rs.1), (2, .int rs.2)] → va_P (dC, dI) vwCl [] H → va_D A [] → va_S A s.heap H locs → W p l e (headSpec wsX3_parities ({ frames := 1, cells := 0, slots := 0, locals := 20 })).room s m (([.int p0] : List Value).toArray) below meth c H locs 0 0 (MQ below (va_Qi (fun (r : Int32) (_ : Unit) => r = res) (QW (dC, dI) cy A []) A) (([.int p0] : List Value).toArray) s 0 0 A) (F0 m 29 ls [])) → W p l e (headSpec wsX3_parities ({ frames := 1, cells := 0, slots := 0, locals := 20 })).room s m (([.int p0] : List Value).toArray) below meth c H locs 0 0 (MQ below (va_Qi (fun (r : Int32) (_ : Unit) => r = res) (QW (dC, dI) cy A []) A) (([.int p0] : List Value).toArray) s 0 0 A) (F0 m 4 ls []) := by
    intro n
    induction n with
    | zero =>
      intro l0 l1 l2 rs H locs ls h
      rw [fX3_parities_L4_0] at h
      cases h
    | succ n ih =>
      intro l0 l1 l2 rs H locs ls h hl hP hD hS K
      rw [fX3_parities_L4_s] at h
      refine lv_iload_n hx hb dX3_parities_4 rfl (lv_at hl 2 rfl) ?_
      refine lv_bipush (v := (8 : Int32)) hx hb dX3_parities_5 (by decide) ?_
      refine lv_icmp_ge (tgt := 29) hx hb dX3_parities_7 (by decide) (fun c2 => ?_) (fun c2 => ?_)
      · rw [if_pos c2] at h
        have h0 := Option.some.inj h
        subst h0
        exact K H locs ls (lv_sub hl [0, 1, 2] rfl) hP hD hS
      · rw [if_neg c2] at h
        refine lv_iload_n hx hb dX3_parities_10 rfl (lv_at hl 1 rfl) ?_
        refine lv_iload_n hx hb dX3_parities_11 rfl (lv_at hl 0 rfl) ?_
        refine lv_iload_n hx hb dX3_parities_12 rfl (lv_at hl 2 rfl) ?_
        refine lv_iand hx hb dX3_parities_13 ?_
        obtain ⟨r1, hr1, h⟩ := bd_some h
        have hFc := va_free (wc := []) hD hS hA [] rfl
        refine va_calli (va_runS (As := [.int (l0 &&& l2)]) (rest := [.int l1]) ⟨hx, hb, hml, hown, hts⟩ (c_J6_bitCount_0f7a4 l dC dI cy  H.size  (l0 &&& l2) r1 hr1) (va_cwS 1 hts gX3_parities_J6_bitCount_0f7a4 rfl rfl rfl (by decide +kernel) ⟨Nat.le_of_ble_eq_true rfl, Nat.le_of_ble_eq_true rfl⟩) ⟨PW_fb, PW_pre (hP.sub (ws' := []) [] rfl) hK (hD.sub [] (by decide) rfl) hN⟩ rfl rfl hl.1 rfl (lv_room (Nat.le_of_ble_eq_true rfl)) dX3_parities_14 ⟨Nat.zero_le _, Nat.zero_le _⟩) hS (fun q _ h => hFc q h) hFc (fun rz u t H locs ht hvm hw hB hz1 hk1 hS => ?_)
        obtain ⟨hP, hD⟩ := jn (wr := []) (w1 := []) (ws' := []) hP hD [] [] rfl rfl (by decide) (by decide) hk1 hFc hB ht [] rfl (by decide) rfl
        replace hw := hw.symm
        subst hw
        clear hFc hB hk1 hz1 hvm
        refine lv_iconst (v := (1 : Int32)) hx hb dX3_parities_17 (by decide) ?_
        refine lv_iand hx hb dX3_parities_18 ?_
        refine lv_iload_n hx hb dX3_parities_19 rfl (lv_at hl 2 rfl) ?_
        refine lv_ishl hx hb dX3_parities_20 ?_
        refine lv_ior hx hb dX3_parities_21 ?_
        refine lv_istore_n (lv' := [(1, .int (l1 ||| ((r1 &&& (1 : Int32)) <<< (l2 &&& 31)))), (0, .int l0), (2, .int l2)]) hx hb dX3_parities_22 rfl hl (by decide) rfl (fun ls hl => ?_)
        refine lv_iinc (v := l2 + (1 : Int32)) (lv' := [(2, .int (l2 + (1 : Int32))), (1, .int (l1 ||| ((r1 &&& (1 : Int32)) <<< (l2 &&& 31)))), (0, .int l0)]) hx hb dX3_parities_23 hl (k := 2) rfl rfl (by decide) rfl (fun ls hl => ?_)
        refine lv_goto (tgt := 4) hx hb dX3_parities_26 (by decide) ?_
        exact ih l0 (l1 ||| ((r1 &&& (1 : Int32)) <<< (l2 &&& 31))) (l2 + (1 : Int32)) rs H locs ls h (lv_sub hl [2, 1, 0] rfl) hP hD hS K
  obtain ⟨q4, hq4, h⟩ := bd_some h
  refine L4_2 FU p0 (0 : Int32) (0 : Int32) q4 H locs ls hq4 (lv_sub hl [2, 1, 0] rfl) hP hD hS (fun H locs ls hl hP hD hS => ?_)
  refine lv_iload_n hx hb dX3_parities_29 rfl (lv_at hl 1 rfl) ?_
  have h0 := Option.some.inj h
  subst h0
  exact W.iret hx hb hr (fun t ht hW => ⟨⟨_, (), rfl, rfl, QW_mk hP hK hD ht hW⟩, hS.F ht⟩) hS.2.2 dX3_parities_30

noncomputable def fX3_differing (vxb : Int32) (p0 : Int32) : Option (Int32) := bd (fX3_parities p0) fun r1 => bd (fJ6_bitCount_0f7a4 (vxb ^^^ r1)) fun r2 => some r2
set_option maxHeartbeats 4000000 in
set_option maxRecDepth 100000 in
theorem c_X3_differing (l : Launch) (dC : Nat → ClassId) (dI : Nat → Nat → Nat) (cy : ClassId) (ax : Nat) (sz : Nat) (vxb : Int32) (p0 : Int32) (res : Int32) (h : fX3_differing vxb p0 = some res) : Met l yX3_differing wsX3_differing ({ frames := 2, cells := 0, slots := 0, locals := 42 }) (va_Pc [.ref ax, .int p0] (PW (dC, dI) cy sz [(ax, .inr (3, [.int vxb]))])) (va_Qi (fun (r : Int32) (_ : Unit) => r = res) (QW (dC, dI) cy (va_A [(ax, .inr (3, [.int vxb]))] sz) [(ax, .inr (3, [.int vxb]))]) (va_A [(ax, .inr (3, [.int vxb]))] sz)) 0 0 (va_A [(ax, .inr (3, [.int vxb]))] sz) := by
  refine Met.ofW (cc := cX3_differing) (maxL := 2) (ret := (some .int)) (by decide) rfl ?_
  intro p e s m args below meth c s₁ B hml hv
  obtain ⟨rfl, hsz, hP, hK, hD0, hN⟩ := hv
  have hx := B.exec
  have hb := B.bytes
  have hr := B.returns
  have hts := atoms_spec (ws := wsX3_differing) B.pre
  have hown : s.vm.findClass RX3 = some m.cls := findClass_of_methodNamed B.named
  have hlocks := B.notSynchronized
  subst hsz
  have hD := hD0.self (sz := s.heap.size)
  clear hD0
  generalize hAe : va_A [(ax, .inr (3, [.int vxb]))] s.heap.size = A at hD ⊢
  have hA : ∀ q : Nat, s.heap.size ≤ q → A q := fun q h => by rw [← hAe]; exact Or.inr h
  have hS : va_S A s.heap s.heap [] := va_S.rf
  have hl := lv_entry ([.ref ax, .int p0]) (n := 2) (Nat.le_of_ble_eq_true rfl)
  rw [lg_entry_eq]
  generalize (lg_sl ([.ref ax, .int p0]) ++ List.replicate (2 - (lg_sl ([.ref ax, .int p0])).length) Slot.unset).toArray = ls at hl ⊢
  replace hl : lv_has ls 2 [(0, .ref ax), (1, .int p0)] := hl
  replace hP : va_P (dC, dI) vwCl [(ax, .inr (3, [.int vxb]))] s.heap := hP
  obtain ⟨locs, hlocs⟩ : ∃ lc : List Loc, lc = [] := ⟨_, rfl⟩
  rw [← hlocs] at hS ⊢
  obtain ⟨H, hH⟩ : ∃ H : Heap, H = s.heap := ⟨_, rfl⟩
  have hP2 := hP; rw [← hH] at hP2
  have hS2 : va_S A s.heap H locs := by rw [hH]; exact hS
  suffices hgo : W p l e (headSpec wsX3_differing ({ frames := 2, cells := 0, slots := 0, locals := 42 })).room s m (([.ref ax, .int p0] : List Value).toArray) below meth c H locs 0 0 (MQ below (va_Qi (fun (r : Int32) (_ : Unit) => r = res) (QW (dC, dI) cy A [(ax, .inr (3, [.int vxb]))]) A) (([.ref ax, .int p0] : List Value).toArray) s 0 0 A) (F0 m 0 ls []) by rw [hH] at hgo; exact hgo
  replace hP := hP2
  replace hS := hS2
  clear hP2 hS2
  have hin_X3 : ∀ w ∈ wsX30, w ∈ wsX3_differing := by decide +kernel
  have hf_9 := hts (.fieldLink RX3 9 "FewLooks$Table" "bits" "I") (by decide +kernel)
  unfold fX3_differing at h
  refine lv_aload_n hx hb dX3_differing_0 rfl (lv_at hl 0 rfl) ?_
  refine va_get (D := (dC, dI)) (ci := 3) (v := .int vxb) (C := RX3) (T := TX3) (N := 1) hx hb hts hin_X3 hown hK hP 0 rfl rfl 0 (by decide) (hf_9) (fun _ h9 => h9) rfl dX3_differing_1 ?_
  refine lv_iload_n hx hb dX3_differing_4 rfl (lv_at hl 1 rfl) ?_
  obtain ⟨r1, hr1, h⟩ := bd_some h
  have hFc := va_free (wc := []) hD hS hA [] rfl
  refine va_calli (va_runS (As := [.int p0]) (rest := [.int vxb]) ⟨hx, hb, hml, hown, hts⟩ (c_X3_parities l dC dI cy  H.size  p0 r1 hr1) (va_cwS 1 hts gX3_differing_X3_parities rfl rfl rfl (by decide +kernel) ⟨Nat.le_of_ble_eq_true rfl, Nat.le_of_ble_eq_true rfl⟩) ⟨PW_fb, PW_pre (hP.sub (ws' := []) [] rfl) hK (hD.sub [] (by decide) rfl) hN⟩ rfl rfl hl.1 rfl (lv_room (Nat.le_of_ble_eq_true rfl)) dX3_differing_5 ⟨Nat.zero_le _, Nat.zero_le _⟩) hS (fun q _ h => hFc q h) hFc (fun rz u t H locs ht hvm hw hB hz1 hk1 hS => ?_)
  obtain ⟨hP, hD⟩ := jn (wr := [(ax, .inr (3, [.int vxb]))]) (w1 := []) (ws' := [(ax, .inr (3, [.int vxb]))]) hP hD [] [0] rfl rfl (by decide) (by decide) hk1 hFc hB ht [0] rfl (by decide) rfl
  replace hw := hw.symm
  subst hw
  clear hFc hB hk1 hz1 hvm
  refine lv_ixor hx hb dX3_differing_8 ?_
  obtain ⟨r2, hr2, h⟩ := bd_some h
  have hFc := va_free (wc := []) hD hS hA [] rfl
  refine va_calli (va_runS (As := [.int (vxb ^^^ r1)]) (rest := []) ⟨hx, hb, hml, hown, hts⟩ (c_J6_bitCount_0f7a4 l dC dI cy  H.size  (vxb ^^^ r1) r2 hr2) (va_cwS 1 hts gX3_differing_J6_bitCount_0f7a4 rfl rfl rfl (by decide +kernel) ⟨Nat.le_of_ble_eq_true rfl, Nat.le_of_ble_eq_true rfl⟩) ⟨PW_fb, PW_pre (hP.sub (ws' := []) [] rfl) hK (hD.sub [] (by decide) rfl) hN⟩ rfl rfl hl.1 rfl (lv_room (Nat.le_of_ble_eq_true rfl)) dX3_differing_9 ⟨Nat.zero_le _, Nat.zero_le _⟩) hS (fun q _ h => hFc q h) hFc (fun rz u t H locs ht hvm hw hB hz1 hk1 hS => ?_)
  obtain ⟨hP, hD⟩ := jn (wr := [(ax, .inr (3, [.int vxb]))]) (w1 := []) (ws' := [(ax, .inr (3, [.int vxb]))]) hP hD [] [0] rfl rfl (by decide) (by decide) hk1 hFc hB ht [0] rfl (by decide) rfl
  replace hw := hw.symm
  subst hw
  clear hFc hB hk1 hz1 hvm
  have h0 := Option.some.inj h
  subst h0
  exact W.iret hx hb hr (fun t ht hW => ⟨⟨_, (), rfl, rfl, QW_mk hP hK hD ht hW⟩, hS.F ht⟩) hS.2.2 dX3_differing_12

noncomputable def fX3_closest_L4 (n : Nat) (l1 : Int32) (l2 : Int32) (vxb : Int32) : Option (Int32 × Int32) := match n with
  | 0 => none
  | n + 1 => if (8 : Int32) ≤ l2 then (some (l1, l2)) else (bd (fX3_differing vxb l2) fun r1 => bd (fX3_differing vxb l1) fun r2 => if r2 ≤ r1 then (fX3_closest_L4 n l1 (l2 + (1 : Int32)) vxb) else (fX3_closest_L4 n l2 (l2 + (1 : Int32)) vxb))
theorem fX3_closest_L4_0 (l1 : Int32) (l2 : Int32) (vxb : Int32) : fX3_closest_L4 0 l1 l2 vxb = none := rfl
theorem fX3_closest_L4_s (n : Nat) (l1 : Int32) (l2 : Int32) (vxb : Int32) : fX3_closest_L4 (n + 1) l1 l2 vxb = if (8 : Int32) ≤ l2 then (some (l1, l2)) else (bd (fX3_differing vxb l2) fun r1 => bd (fX3_differing vxb l1) fun r2 => if r2 ≤ r1 then (fX3_closest_L4 n l1 (l2 + (1 : Int32)) vxb) else (fX3_closest_L4 n l2 (l2 + (1 : Int32)) vxb)) := rfl
noncomputable def fX3_closest (vxb : Int32)  : Option (Int32) := bd (fX3_closest_L4 FU (0 : Int32) (1 : Int32) vxb) fun q6 => some q6.1
set_option maxHeartbeats 4000000 in
set_option maxRecDepth 100000 in
theorem c_X3_closest (l : Launch) (dC : Nat → ClassId) (dI : Nat → Nat → Nat) (cy : ClassId) (ax : Nat) (sz : Nat) (vxb : Int32)  (res : Int32) (h : fX3_closest vxb = some res) : Met l yX3_closest wsX3_closest ({ frames := 3, cells := 0, slots := 0, locals := 63 }) (va_Pc [.ref ax] (PW (dC, dI) cy sz [(ax, .inr (3, [.int vxb]))])) (va_Qi (fun (r : Int32) (_ : Unit) => r = res) (QW (dC, dI) cy (va_A [(ax, .inr (3, [.int vxb]))] sz) [(ax, .inr (3, [.int vxb]))]) (va_A [(ax, .inr (3, [.int vxb]))] sz)) 0 0 (va_A [(ax, .inr (3, [.int vxb]))] sz) := by
  refine Met.ofW (cc := cX3_closest) (maxL := 3) (ret := (some .int)) (by decide) rfl ?_
  intro p e s m args below meth c s₁ B hml hv
  obtain ⟨rfl, hsz, hP, hK, hD0, hN⟩ := hv
  have hx := B.exec
  have hb := B.bytes
  have hr := B.returns
  have hts := atoms_spec (ws := wsX3_closest) B.pre
  have hown : s.vm.findClass RX3 = some m.cls := findClass_of_methodNamed B.named
  have hlocks := B.notSynchronized
  subst hsz
  have hD := hD0.self (sz := s.heap.size)
  clear hD0
  generalize hAe : va_A [(ax, .inr (3, [.int vxb]))] s.heap.size = A at hD ⊢
  have hA : ∀ q : Nat, s.heap.size ≤ q → A q := fun q h => by rw [← hAe]; exact Or.inr h
  have hS : va_S A s.heap s.heap [] := va_S.rf
  have hl := lv_entry ([.ref ax]) (n := 3) (Nat.le_of_ble_eq_true rfl)
  rw [lg_entry_eq]
  generalize (lg_sl ([.ref ax]) ++ List.replicate (3 - (lg_sl ([.ref ax])).length) Slot.unset).toArray = ls at hl ⊢
  replace hl : lv_has ls 3 [(0, .ref ax)] := hl
  replace hP : va_P (dC, dI) vwCl [(ax, .inr (3, [.int vxb]))] s.heap := hP
  obtain ⟨locs, hlocs⟩ : ∃ lc : List Loc, lc = [] := ⟨_, rfl⟩
  rw [← hlocs] at hS ⊢
  obtain ⟨H, hH⟩ : ∃ H : Heap, H = s.heap := ⟨_, rfl⟩
  have hP2 := hP; rw [← hH] at hP2
  have hS2 : va_S A s.heap H locs := by rw [hH]; exact hS
  suffices hgo : W p l e (headSpec wsX3_closest ({ frames := 3, cells := 0, slots := 0, locals := 63 })).room s m (([.ref ax] : List Value).toArray) below meth c H locs 0 0 (MQ below (va_Qi (fun (r : Int32) (_ : Unit) => r = res) (QW (dC, dI) cy A [(ax, .inr (3, [.int vxb]))]) A) (([.ref ax] : List Value).toArray) s 0 0 A) (F0 m 0 ls []) by rw [hH] at hgo; exact hgo
  replace hP := hP2
  replace hS := hS2
  clear hP2 hS2
  unfold fX3_closest at h
  refine lv_iconst (v := (0 : Int32)) hx hb dX3_closest_0 (by decide) ?_
  refine lv_istore_n (lv' := [(1, .int (0 : Int32)), (0, .ref ax)]) hx hb dX3_closest_1 rfl hl (by decide) rfl (fun ls hl => ?_)
  refine lv_iconst (v := (1 : Int32)) hx hb dX3_closest_2 (by decide) ?_
  refine lv_istore_n (lv' := [(2, .int (1 : Int32)), (1, .int (0 : Int32)), (0, .ref ax)]) hx hb dX3_closest_3 rfl hl (by decide) rfl (fun ls hl => ?_)
  have L4_4 : ∀ (n : Nat) (l1 : Int32) (l2 : Int32) (rs : (Int32 × Int32)) (H : Heap) (locs : List Loc) (ls : Array Slot), fX3_closest_L4 n l1 l2 vxb = some rs → lv_has ls 3 [(0, .ref ax), (1, .int l1), (2, .int l2)] → va_P (dC, dI) vwCl [(ax, .inr (3, [.int vxb]))] H → va_D A [(ax, .inr (3, [.int vxb]))] → va_S A s.heap H locs → (∀ (H : Heap) (locs : List Loc) (ls : Array Slot), lv_has ls 3 [(0, .ref ax), (1, .int rs.1), (2, .int rs.2)] → va_P (dC, dI) vwCl [(ax, .inr (3, [.int vxb]))] H → va_D A [(ax, .inr (3, [.int vxb]))] → va_S A s.heap H locs → W p l e (headSpec wsX3_closest ({ frames := 3, cells := 0, slots := 0, locals := 63 })).room s m (([.ref ax] : List Value).toArray) below meth c H locs 0 0 (MQ below (va_Qi (fun (r : Int32) (_ : Unit) => r = res) (QW (dC, dI) cy A [(ax, .inr (3, [.int vxb]))]) A) (([.ref ax] : List Value).toArray) s 0 0 A) (F0 m 31 ls [])) → W p l e (headSpec wsX3_closest ({ frames := 3, cells := 0, slots := 0, locals := 63 })).room s m (([.ref ax] : List Value).toArray) below meth c H locs 0 0 (MQ below (va_Qi (fun (r : Int32) (_ : Unit) => r = res) (QW (dC, dI) cy A [(ax, .inr (3, [.int vxb]))]) A) (([.ref ax] : List Value).toArray) s 0 0 A) (F0 m 4 ls []) := by
    intro n
    induction n with
    | zero =>
      intro l1 l2 rs H locs ls h
      rw [fX3_closest_L4_0] at h
      cases h
    | succ n ih =>
      intro l1 l2 rs H locs ls h hl hP hD hS K
      rw [fX3_closest_L4_s] at h
      refine lv_iload_n hx hb dX3_closest_4 rfl (lv_at hl 2 rfl) ?_
      refine lv_bipush (v := (8 : Int32)) hx hb dX3_closest_5 (by decide) ?_
      refine lv_icmp_ge (tgt := 31) hx hb dX3_closest_7 (by decide) (fun c4 => ?_) (fun c4 => ?_)
      · rw [if_pos c4] at h
        have h0 := Option.some.inj h
        subst h0
        exact K H locs ls (lv_sub hl [0, 1, 2] rfl) hP hD hS
      · rw [if_neg c4] at h
        refine lv_aload_n hx hb dX3_closest_10 rfl (lv_at hl 0 rfl) ?_
        refine lv_iload_n hx hb dX3_closest_11 rfl (lv_at hl 2 rfl) ?_
        obtain ⟨r1, hr1, h⟩ := bd_some h
        have hFc := va_free (wc := [(ax, .inr (3, [.int vxb]))]) hD hS hA [0] rfl
        refine va_calli (va_runV (As := [.int l2]) (rest := []) ⟨hx, hb, hml, hown, hts⟩ (c_X3_differing l dC dI cy ax H.size vxb l2 r1 hr1) (cwV 1 hts gX3_closest_X3_differing rfl rfl rfl (by decide +kernel) ⟨Nat.le_of_ble_eq_true rfl, Nat.le_of_ble_eq_true rfl⟩) ⟨PW_fb, va_recv hK hP (ci := 3) (q0 := 0) rfl rfl, PW_pre (hP.sub (ws' := [(ax, .inr (3, [.int vxb]))]) [0] rfl) hK (hD.sub [0] (by decide) rfl) hN⟩ rfl rfl hl.1 rfl (lv_room (Nat.le_of_ble_eq_true rfl)) dX3_closest_12 ⟨Nat.zero_le _, Nat.zero_le _⟩) hS (fun q _ h => hFc q h) hFc (fun rz u t H locs ht hvm hw hB hz1 hk1 hS => ?_)
        obtain ⟨hP, hD⟩ := jn (wr := []) (w1 := [(ax, .inr (3, [.int vxb]))]) (ws' := [(ax, .inr (3, [.int vxb]))]) hP hD [0] [] rfl rfl (by decide) (by decide) hk1 hFc hB ht [0] rfl (by decide) rfl
        replace hw := hw.symm
        subst hw
        clear hFc hB hk1 hz1 hvm
        refine lv_aload_n hx hb dX3_closest_15 rfl (lv_at hl 0 rfl) ?_
        refine lv_iload_n hx hb dX3_closest_16 rfl (lv_at hl 1 rfl) ?_
        obtain ⟨r2, hr2, h⟩ := bd_some h
        have hFc := va_free (wc := [(ax, .inr (3, [.int vxb]))]) hD hS hA [0] rfl
        refine va_calli (va_runV (As := [.int l1]) (rest := [.int r1]) ⟨hx, hb, hml, hown, hts⟩ (c_X3_differing l dC dI cy ax H.size vxb l1 r2 hr2) (cwV 1 hts gX3_closest_X3_differing rfl rfl rfl (by decide +kernel) ⟨Nat.le_of_ble_eq_true rfl, Nat.le_of_ble_eq_true rfl⟩) ⟨PW_fb, va_recv hK hP (ci := 3) (q0 := 0) rfl rfl, PW_pre (hP.sub (ws' := [(ax, .inr (3, [.int vxb]))]) [0] rfl) hK (hD.sub [0] (by decide) rfl) hN⟩ rfl rfl hl.1 rfl (lv_room (Nat.le_of_ble_eq_true rfl)) dX3_closest_17 ⟨Nat.zero_le _, Nat.zero_le _⟩) hS (fun q _ h => hFc q h) hFc (fun rz u t H locs ht hvm hw hB hz1 hk1 hS => ?_)
        obtain ⟨hP, hD⟩ := jn (wr := []) (w1 := [(ax, .inr (3, [.int vxb]))]) (ws' := [(ax, .inr (3, [.int vxb]))]) hP hD [0] [] rfl rfl (by decide) (by decide) hk1 hFc hB ht [0] rfl (by decide) rfl
        replace hw := hw.symm
        subst hw
        clear hFc hB hk1 hz1 hvm
        refine lv_icmp_ge (tgt := 25) hx hb dX3_closest_20 (by decide) (fun c3 => ?_) (fun c3 => ?_)
        · rw [if_pos c3] at h
          refine lv_iinc (v := l2 + (1 : Int32)) (lv' := [(2, .int (l2 + (1 : Int32))), (0, .ref ax), (1, .int l1)]) hx hb dX3_closest_25 hl (k := 2) rfl rfl (by decide) rfl (fun ls hl => ?_)
          refine lv_goto (tgt := 4) hx hb dX3_closest_28 (by decide) ?_
          exact ih l1 (l2 + (1 : Int32)) rs H locs ls h (lv_sub hl [1, 2, 0] rfl) hP hD hS K
        · rw [if_neg c3] at h
          refine lv_iload_n hx hb dX3_closest_23 rfl (lv_at hl 2 rfl) ?_
          refine lv_istore_n (lv' := [(1, .int l2), (0, .ref ax), (2, .int l2)]) hx hb dX3_closest_24 rfl hl (by decide) rfl (fun ls hl => ?_)
          refine lv_iinc (v := l2 + (1 : Int32)) (lv' := [(2, .int (l2 + (1 : Int32))), (1, .int l2), (0, .ref ax)]) hx hb dX3_closest_25 hl (k := 2) rfl rfl (by decide) rfl (fun ls hl => ?_)
          refine lv_goto (tgt := 4) hx hb dX3_closest_28 (by decide) ?_
          exact ih l2 (l2 + (1 : Int32)) rs H locs ls h (lv_sub hl [2, 1, 0] rfl) hP hD hS K
  obtain ⟨q6, hq6, h⟩ := bd_some h
  refine L4_4 FU (0 : Int32) (1 : Int32) q6 H locs ls hq6 (lv_sub hl [2, 1, 0] rfl) hP hD hS (fun H locs ls hl hP hD hS => ?_)
  refine lv_iload_n hx hb dX3_closest_31 rfl (lv_at hl 1 rfl) ?_
  have h0 := Option.some.inj h
  subst h0
  exact W.iret hx hb hr (fun t ht hW => ⟨⟨_, (), rfl, rfl, QW_mk hP hK hD ht hW⟩, hS.F ht⟩) hS.2.2 dX3_closest_32

noncomputable def fX3_agrees (vxb : Int32) (p0 : Int32) (p1 : Int32) : Option (Int32) := bd (fX3_at vxb p0) fun r1 => bd (fX3_at vxb p1) fun r2 => bd (fX3_at vxb (p0 ^^^ p1)) fun r3 => if (r1 ^^^ r2) = r3 then (some (1 : Int32)) else (some (0 : Int32))
set_option maxHeartbeats 4000000 in
set_option maxRecDepth 100000 in
theorem c_X3_agrees (l : Launch) (dC : Nat → ClassId) (dI : Nat → Nat → Nat) (cy : ClassId) (ax : Nat) (sz : Nat) (vxb : Int32) (p0 : Int32) (p1 : Int32) (res : Int32) (h : fX3_agrees vxb p0 p1 = some res) : Met l yX3_agrees wsX3_agrees ({ frames := 1, cells := 0, slots := 0, locals := 21 }) (va_Pc [.ref ax, .int p0, .int p1] (PW (dC, dI) cy sz [(ax, .inr (3, [.int vxb]))])) (va_Qi (fun (r : Int32) (_ : Unit) => r = res ∧ bo r) (QW (dC, dI) cy (va_A [(ax, .inr (3, [.int vxb]))] sz) [(ax, .inr (3, [.int vxb]))]) (va_A [(ax, .inr (3, [.int vxb]))] sz)) 0 0 (va_A [(ax, .inr (3, [.int vxb]))] sz) := by
  refine Met.ofW (cc := cX3_agrees) (maxL := 3) (ret := (some .boolean)) (by decide) rfl ?_
  intro p e s m args below meth c s₁ B hml hv
  obtain ⟨rfl, hsz, hP, hK, hD0, hN⟩ := hv
  have hx := B.exec
  have hb := B.bytes
  have hr := B.returns
  have hts := atoms_spec (ws := wsX3_agrees) B.pre
  have hown : s.vm.findClass RX3 = some m.cls := findClass_of_methodNamed B.named
  have hlocks := B.notSynchronized
  subst hsz
  have hD := hD0.self (sz := s.heap.size)
  clear hD0
  generalize hAe : va_A [(ax, .inr (3, [.int vxb]))] s.heap.size = A at hD ⊢
  have hA : ∀ q : Nat, s.heap.size ≤ q → A q := fun q h => by rw [← hAe]; exact Or.inr h
  have hS : va_S A s.heap s.heap [] := va_S.rf
  have hl := lv_entry ([.ref ax, .int p0, .int p1]) (n := 3) (Nat.le_of_ble_eq_true rfl)
  rw [lg_entry_eq]
  generalize (lg_sl ([.ref ax, .int p0, .int p1]) ++ List.replicate (3 - (lg_sl ([.ref ax, .int p0, .int p1])).length) Slot.unset).toArray = ls at hl ⊢
  replace hl : lv_has ls 3 [(0, .ref ax), (1, .int p0), (2, .int p1)] := hl
  replace hP : va_P (dC, dI) vwCl [(ax, .inr (3, [.int vxb]))] s.heap := hP
  obtain ⟨locs, hlocs⟩ : ∃ lc : List Loc, lc = [] := ⟨_, rfl⟩
  rw [← hlocs] at hS ⊢
  obtain ⟨H, hH⟩ : ∃ H : Heap, H = s.heap := ⟨_, rfl⟩
  have hP2 := hP; rw [← hH] at hP2
  have hS2 : va_S A s.heap H locs := by rw [hH]; exact hS
  suffices hgo : W p l e (headSpec wsX3_agrees ({ frames := 1, cells := 0, slots := 0, locals := 21 })).room s m (([.ref ax, .int p0, .int p1] : List Value).toArray) below meth c H locs 0 0 (MQ below (va_Qi (fun (r : Int32) (_ : Unit) => r = res ∧ bo r) (QW (dC, dI) cy A [(ax, .inr (3, [.int vxb]))]) A) (([.ref ax, .int p0, .int p1] : List Value).toArray) s 0 0 A) (F0 m 0 ls []) by rw [hH] at hgo; exact hgo
  replace hP := hP2
  replace hS := hS2
  clear hP2 hS2
  unfold fX3_agrees at h
  refine lv_aload_n hx hb dX3_agrees_0 rfl (lv_at hl 0 rfl) ?_
  refine lv_iload_n hx hb dX3_agrees_1 rfl (lv_at hl 1 rfl) ?_
  obtain ⟨r1, hr1, h⟩ := bd_some h
  have hFc := va_free (wc := [(ax, .inr (3, [.int vxb]))]) hD hS hA [0] rfl
  refine va_calli (va_runV (As := [.int p0]) (rest := []) ⟨hx, hb, hml, hown, hts⟩ (c_X3_at l dC dI cy ax H.size vxb p0 r1 hr1) (cwV 1 hts gX3_agrees_X3_at rfl rfl rfl (by decide +kernel) ⟨Nat.le_of_ble_eq_true rfl, Nat.le_of_ble_eq_true rfl⟩) ⟨PW_fb, va_recv hK hP (ci := 3) (q0 := 0) rfl rfl, PW_pre (hP.sub (ws' := [(ax, .inr (3, [.int vxb]))]) [0] rfl) hK (hD.sub [0] (by decide) rfl) hN⟩ rfl rfl hl.1 rfl (lv_room (Nat.le_of_ble_eq_true rfl)) dX3_agrees_2 ⟨Nat.zero_le _, Nat.zero_le _⟩) hS (fun q _ h => hFc q h) hFc (fun rz u t H locs ht hvm hw hB hz1 hk1 hS => ?_)
  obtain ⟨hP, hD⟩ := jn (wr := []) (w1 := [(ax, .inr (3, [.int vxb]))]) (ws' := [(ax, .inr (3, [.int vxb]))]) hP hD [0] [] rfl rfl (by decide) (by decide) hk1 hFc hB ht [0] rfl (by decide) rfl
  replace hw := hw.symm
  subst hw
  clear hFc hB hk1 hz1 hvm
  refine lv_aload_n hx hb dX3_agrees_5 rfl (lv_at hl 0 rfl) ?_
  refine lv_iload_n hx hb dX3_agrees_6 rfl (lv_at hl 2 rfl) ?_
  obtain ⟨r2, hr2, h⟩ := bd_some h
  have hFc := va_free (wc := [(ax, .inr (3, [.int vxb]))]) hD hS hA [0] rfl
  refine va_calli (va_runV (As := [.int p1]) (rest := [.int r1]) ⟨hx, hb, hml, hown, hts⟩ (c_X3_at l dC dI cy ax H.size vxb p1 r2 hr2) (cwV 1 hts gX3_agrees_X3_at rfl rfl rfl (by decide +kernel) ⟨Nat.le_of_ble_eq_true rfl, Nat.le_of_ble_eq_true rfl⟩) ⟨PW_fb, va_recv hK hP (ci := 3) (q0 := 0) rfl rfl, PW_pre (hP.sub (ws' := [(ax, .inr (3, [.int vxb]))]) [0] rfl) hK (hD.sub [0] (by decide) rfl) hN⟩ rfl rfl hl.1 rfl (lv_room (Nat.le_of_ble_eq_true rfl)) dX3_agrees_7 ⟨Nat.zero_le _, Nat.zero_le _⟩) hS (fun q _ h => hFc q h) hFc (fun rz u t H locs ht hvm hw hB hz1 hk1 hS => ?_)
  obtain ⟨hP, hD⟩ := jn (wr := []) (w1 := [(ax, .inr (3, [.int vxb]))]) (ws' := [(ax, .inr (3, [.int vxb]))]) hP hD [0] [] rfl rfl (by decide) (by decide) hk1 hFc hB ht [0] rfl (by decide) rfl
  replace hw := hw.symm
  subst hw
  clear hFc hB hk1 hz1 hvm
  refine lv_ixor hx hb dX3_agrees_10 ?_
  refine lv_aload_n hx hb dX3_agrees_11 rfl (lv_at hl 0 rfl) ?_
  refine lv_iload_n hx hb dX3_agrees_12 rfl (lv_at hl 1 rfl) ?_
  refine lv_iload_n hx hb dX3_agrees_13 rfl (lv_at hl 2 rfl) ?_
  refine lv_ixor hx hb dX3_agrees_14 ?_
  obtain ⟨r3, hr3, h⟩ := bd_some h
  have hFc := va_free (wc := [(ax, .inr (3, [.int vxb]))]) hD hS hA [0] rfl
  refine va_calli (va_runV (As := [.int (p0 ^^^ p1)]) (rest := [.int (r1 ^^^ r2)]) ⟨hx, hb, hml, hown, hts⟩ (c_X3_at l dC dI cy ax H.size vxb (p0 ^^^ p1) r3 hr3) (cwV 1 hts gX3_agrees_X3_at rfl rfl rfl (by decide +kernel) ⟨Nat.le_of_ble_eq_true rfl, Nat.le_of_ble_eq_true rfl⟩) ⟨PW_fb, va_recv hK hP (ci := 3) (q0 := 0) rfl rfl, PW_pre (hP.sub (ws' := [(ax, .inr (3, [.int vxb]))]) [0] rfl) hK (hD.sub [0] (by decide) rfl) hN⟩ rfl rfl hl.1 rfl (lv_room (Nat.le_of_ble_eq_true rfl)) dX3_agrees_15 ⟨Nat.zero_le _, Nat.zero_le _⟩) hS (fun q _ h => hFc q h) hFc (fun rz u t H locs ht hvm hw hB hz1 hk1 hS => ?_)
  obtain ⟨hP, hD⟩ := jn (wr := []) (w1 := [(ax, .inr (3, [.int vxb]))]) (ws' := [(ax, .inr (3, [.int vxb]))]) hP hD [0] [] rfl rfl (by decide) (by decide) hk1 hFc hB ht [0] rfl (by decide) rfl
  replace hw := hw.symm
  subst hw
  clear hFc hB hk1 hz1 hvm
  refine lv_icmp_ne (tgt := 25) hx hb dX3_agrees_18 (by decide) (fun c4 => ?_) (fun c4 => ?_)
  · rw [if_neg c4] at h
    refine lv_iconst (v := (0 : Int32)) hx hb dX3_agrees_25 (by decide) ?_
    have h0 := Option.some.inj h
    subst h0
    exact W.zret (ty := .boolean) hx hb hr bo_0 (fun t ht hW => ⟨⟨_, (), rfl, ⟨rfl, bo_0⟩, QW_mk hP hK hD ht hW⟩, hS.F ht⟩) hS.2.2 dX3_agrees_26
  · rw [if_pos c4] at h
    refine lv_iconst (v := (1 : Int32)) hx hb dX3_agrees_21 (by decide) ?_
    refine lv_goto (tgt := 26) hx hb dX3_agrees_22 (by decide) ?_
    have h0 := Option.some.inj h
    subst h0
    exact W.zret (ty := .boolean) hx hb hr bo_1 (fun t ht hW => ⟨⟨_, (), rfl, ⟨rfl, bo_1⟩, QW_mk hP hK hD ht hW⟩, hS.F ht⟩) hS.2.2 dX3_agrees_26

noncomputable def fX3_passing_L12 (n : Nat) (l1 : Int32) (l2 : Int32) (l3 : Int32) (vxb : Int32) : Option (Int32 × Int32) := match n with
  | 0 => none
  | n + 1 => if (8 : Int32) ≤ l3 then (some (l1, l3)) else (bd (fX3_agrees vxb l2 l3) fun r1 => if r1 = 0 then (fX3_passing_L12 n l1 l2 (l3 + (1 : Int32)) vxb) else (fX3_passing_L12 n (l1 + (1 : Int32)) l2 (l3 + (1 : Int32)) vxb))
theorem fX3_passing_L12_0 (l1 : Int32) (l2 : Int32) (l3 : Int32) (vxb : Int32) : fX3_passing_L12 0 l1 l2 l3 vxb = none := rfl
theorem fX3_passing_L12_s (n : Nat) (l1 : Int32) (l2 : Int32) (l3 : Int32) (vxb : Int32) : fX3_passing_L12 (n + 1) l1 l2 l3 vxb = if (8 : Int32) ≤ l3 then (some (l1, l3)) else (bd (fX3_agrees vxb l2 l3) fun r1 => if r1 = 0 then (fX3_passing_L12 n l1 l2 (l3 + (1 : Int32)) vxb) else (fX3_passing_L12 n (l1 + (1 : Int32)) l2 (l3 + (1 : Int32)) vxb)) := rfl
noncomputable def fX3_passing_L4 (n : Nat) (l1 : Int32) (l2 : Int32) (vxb : Int32) : Option (Int32 × Int32) := match n with
  | 0 => none
  | n + 1 => if (8 : Int32) ≤ l2 then (some (l1, l2)) else (bd (fX3_passing_L12 FU l1 l2 (0 : Int32) vxb) fun q5 => fX3_passing_L4 n q5.1 (l2 + (1 : Int32)) vxb)
theorem fX3_passing_L4_0 (l1 : Int32) (l2 : Int32) (vxb : Int32) : fX3_passing_L4 0 l1 l2 vxb = none := rfl
theorem fX3_passing_L4_s (n : Nat) (l1 : Int32) (l2 : Int32) (vxb : Int32) : fX3_passing_L4 (n + 1) l1 l2 vxb = if (8 : Int32) ≤ l2 then (some (l1, l2)) else (bd (fX3_passing_L12 FU l1 l2 (0 : Int32) vxb) fun q5 => fX3_passing_L4 n q5.1 (l2 + (1 : Int32)) vxb) := rfl
noncomputable def fX3_passing (vxb : Int32)  : Option (Int32) := bd (fX3_passing_L4 FU (0 : Int32) (0 : Int32) vxb) fun q8 => some q8.1
set_option maxHeartbeats 4000000 in
set_option maxRecDepth 100000 in
theorem c_X3_passing (l : Launch) (dC : Nat → ClassId) (dI : Nat → Nat → Nat) (cy : ClassId) (ax : Nat) (sz : Nat) (vxb : Int32)  (res : Int32) (h : fX3_passing vxb = some res) : Met l yX3_passing wsX3_passing ({ frames := 2, cells := 0, slots := 0, locals := 43 }) (va_Pc [.ref ax] (PW (dC, dI) cy sz [(ax, .inr (3, [.int vxb]))])) (va_Qi (fun (r : Int32) (_ : Unit) => r = res) (QW (dC, dI) cy (va_A [(ax, .inr (3, [.int vxb]))] sz) [(ax, .inr (3, [.int vxb]))]) (va_A [(ax, .inr (3, [.int vxb]))] sz)) 0 0 (va_A [(ax, .inr (3, [.int vxb]))] sz) := by
  refine Met.ofW (cc := cX3_passing) (maxL := 4) (ret := (some .int)) (by decide) rfl ?_
  intro p e s m args below meth c s₁ B hml hv
  obtain ⟨rfl, hsz, hP, hK, hD0, hN⟩ := hv
  have hx := B.exec
  have hb := B.bytes
  have hr := B.returns
  have hts := atoms_spec (ws := wsX3_passing) B.pre
  have hown : s.vm.findClass RX3 = some m.cls := findClass_of_methodNamed B.named
  have hlocks := B.notSynchronized
  subst hsz
  have hD := hD0.self (sz := s.heap.size)
  clear hD0
  generalize hAe : va_A [(ax, .inr (3, [.int vxb]))] s.heap.size = A at hD ⊢
  have hA : ∀ q : Nat, s.heap.size ≤ q → A q := fun q h => by rw [← hAe]; exact Or.inr h
  have hS : va_S A s.heap s.heap [] := va_S.rf
  have hl := lv_entry ([.ref ax]) (n := 4) (Nat.le_of_ble_eq_true rfl)
  rw [lg_entry_eq]
  generalize (lg_sl ([.ref ax]) ++ List.replicate (4 - (lg_sl ([.ref ax])).length) Slot.unset).toArray = ls at hl ⊢
  replace hl : lv_has ls 4 [(0, .ref ax)] := hl
  replace hP : va_P (dC, dI) vwCl [(ax, .inr (3, [.int vxb]))] s.heap := hP
  obtain ⟨locs, hlocs⟩ : ∃ lc : List Loc, lc = [] := ⟨_, rfl⟩
  rw [← hlocs] at hS ⊢
  obtain ⟨H, hH⟩ : ∃ H : Heap, H = s.heap := ⟨_, rfl⟩
  have hP2 := hP; rw [← hH] at hP2
  have hS2 : va_S A s.heap H locs := by rw [hH]; exact hS
  suffices hgo : W p l e (headSpec wsX3_passing ({ frames := 2, cells := 0, slots := 0, locals := 43 })).room s m (([.ref ax] : List Value).toArray) below meth c H locs 0 0 (MQ below (va_Qi (fun (r : Int32) (_ : Unit) => r = res) (QW (dC, dI) cy A [(ax, .inr (3, [.int vxb]))]) A) (([.ref ax] : List Value).toArray) s 0 0 A) (F0 m 0 ls []) by rw [hH] at hgo; exact hgo
  replace hP := hP2
  replace hS := hS2
  clear hP2 hS2
  unfold fX3_passing at h
  refine lv_iconst (v := (0 : Int32)) hx hb dX3_passing_0 (by decide) ?_
  refine lv_istore_n (lv' := [(1, .int (0 : Int32)), (0, .ref ax)]) hx hb dX3_passing_1 rfl hl (by decide) rfl (fun ls hl => ?_)
  refine lv_iconst (v := (0 : Int32)) hx hb dX3_passing_2 (by decide) ?_
  refine lv_istore_n (lv' := [(2, .int (0 : Int32)), (1, .int (0 : Int32)), (0, .ref ax)]) hx hb dX3_passing_3 rfl hl (by decide) rfl (fun ls hl => ?_)
  have L4_6 : ∀ (n : Nat) (l1 : Int32) (l2 : Int32) (rs : (Int32 × Int32)) (H : Heap) (locs : List Loc) (ls : Array Slot), fX3_passing_L4 n l1 l2 vxb = some rs → lv_has ls 4 [(0, .ref ax), (1, .int l1), (2, .int l2)] → va_P (dC, dI) vwCl [(ax, .inr (3, [.int vxb]))] H → va_D A [(ax, .inr (3, [.int vxb]))] → va_S A s.heap H locs → (∀ (H : Heap) (locs : List Loc) (ls : Array Slot), lv_has ls 4 [(0, .ref ax), (1, .int rs.1), (2, .int rs.2)] → va_P (dC, dI) vwCl [(ax, .inr (3, [.int vxb]))] H → va_D A [(ax, .inr (3, [.int vxb]))] → va_S A s.heap H locs → W p l e (headSpec wsX3_passing ({ frames := 2, cells := 0, slots := 0, locals := 43 })).room s m (([.ref ax] : List Value).toArray) below meth c H locs 0 0 (MQ below (va_Qi (fun (r : Int32) (_ : Unit) => r = res) (QW (dC, dI) cy A [(ax, .inr (3, [.int vxb]))]) A) (([.ref ax] : List Value).toArray) s 0 0 A) (F0 m 42 ls [])) → W p l e (headSpec wsX3_passing ({ frames := 2, cells := 0, slots := 0, locals := 43 })).room s m (([.ref ax] : List Value).toArray) below meth c H locs 0 0 (MQ below (va_Qi (fun (r : Int32) (_ : Unit) => r = res) (QW (dC, dI) cy A [(ax, .inr (3, [.int vxb]))]) A) (([.ref ax] : List Value).toArray) s 0 0 A) (F0 m 4 ls []) := by
    intro n
    induction n with
    | zero =>
      intro l1 l2 rs H locs ls h
      rw [fX3_passing_L4_0] at h
      cases h
    | succ n ih =>
      intro l1 l2 rs H locs ls h hl hP hD hS K
      rw [fX3_passing_L4_s] at h
      refine lv_iload_n hx hb dX3_passing_4 rfl (lv_at hl 2 rfl) ?_
      refine lv_bipush (v := (8 : Int32)) hx hb dX3_passing_5 (by decide) ?_
      refine lv_icmp_ge (tgt := 42) hx hb dX3_passing_7 (by decide) (fun c6 => ?_) (fun c6 => ?_)
      · rw [if_pos c6] at h
        have h0 := Option.some.inj h
        subst h0
        exact K H locs ls (lv_sub hl [0, 1, 2] rfl) hP hD hS
      · rw [if_neg c6] at h
        refine lv_iconst (v := (0 : Int32)) hx hb dX3_passing_10 (by decide) ?_
        refine lv_istore_n (lv' := [(3, .int (0 : Int32)), (0, .ref ax), (1, .int l1), (2, .int l2)]) hx hb dX3_passing_11 rfl hl (by decide) rfl (fun ls hl => ?_)
        have L12_3 : ∀ (n : Nat) (l1 : Int32) (l2 : Int32) (l3 : Int32) (rs : (Int32 × Int32)) (H : Heap) (locs : List Loc) (ls : Array Slot), fX3_passing_L12 n l1 l2 l3 vxb = some rs → lv_has ls 4 [(0, .ref ax), (1, .int l1), (2, .int l2), (3, .int l3)] → va_P (dC, dI) vwCl [(ax, .inr (3, [.int vxb]))] H → va_D A [(ax, .inr (3, [.int vxb]))] → va_S A s.heap H locs → (∀ (H : Heap) (locs : List Loc) (ls : Array Slot), lv_has ls 4 [(0, .ref ax), (1, .int rs.1), (2, .int l2), (3, .int rs.2)] → va_P (dC, dI) vwCl [(ax, .inr (3, [.int vxb]))] H → va_D A [(ax, .inr (3, [.int vxb]))] → va_S A s.heap H locs → W p l e (headSpec wsX3_passing ({ frames := 2, cells := 0, slots := 0, locals := 43 })).room s m (([.ref ax] : List Value).toArray) below meth c H locs 0 0 (MQ below (va_Qi (fun (r : Int32) (_ : Unit) => r = res) (QW (dC, dI) cy A [(ax, .inr (3, [.int vxb]))]) A) (([.ref ax] : List Value).toArray) s 0 0 A) (F0 m 36 ls [])) → W p l e (headSpec wsX3_passing ({ frames := 2, cells := 0, slots := 0, locals := 43 })).room s m (([.ref ax] : List Value).toArray) below meth c H locs 0 0 (MQ below (va_Qi (fun (r : Int32) (_ : Unit) => r = res) (QW (dC, dI) cy A [(ax, .inr (3, [.int vxb]))]) A) (([.ref ax] : List Value).toArray) s 0 0 A) (F0 m 12 ls []) := by
          intro n
          induction n with
          | zero =>
            intro l1 l2 l3 rs H locs ls h
            rw [fX3_passing_L12_0] at h
            cases h
          | succ n ih =>
            intro l1 l2 l3 rs H locs ls h hl hP hD hS K
            rw [fX3_passing_L12_s] at h
            refine lv_iload_n hx hb dX3_passing_12 rfl (lv_at hl 3 rfl) ?_
            refine lv_bipush (v := (8 : Int32)) hx hb dX3_passing_13 (by decide) ?_
            refine lv_icmp_ge (tgt := 36) hx hb dX3_passing_15 (by decide) (fun c3 => ?_) (fun c3 => ?_)
            · rw [if_pos c3] at h
              have h0 := Option.some.inj h
              subst h0
              exact K H locs ls (lv_sub hl [0, 1, 2, 3] rfl) hP hD hS
            · rw [if_neg c3] at h
              refine lv_aload_n hx hb dX3_passing_18 rfl (lv_at hl 0 rfl) ?_
              refine lv_iload_n hx hb dX3_passing_19 rfl (lv_at hl 2 rfl) ?_
              refine lv_iload_n hx hb dX3_passing_20 rfl (lv_at hl 3 rfl) ?_
              obtain ⟨r1, hr1, h⟩ := bd_some h
              have hFc := va_free (wc := [(ax, .inr (3, [.int vxb]))]) hD hS hA [0] rfl
              refine va_calli (va_runV (As := [.int l2, .int l3]) (rest := []) ⟨hx, hb, hml, hown, hts⟩ (c_X3_agrees l dC dI cy ax H.size vxb l2 l3 r1 hr1) (cwV 2 hts gX3_passing_X3_agrees rfl rfl rfl (by decide +kernel) ⟨Nat.le_of_ble_eq_true rfl, Nat.le_of_ble_eq_true rfl⟩) ⟨PW_fb, va_recv hK hP (ci := 3) (q0 := 0) rfl rfl, PW_pre (hP.sub (ws' := [(ax, .inr (3, [.int vxb]))]) [0] rfl) hK (hD.sub [0] (by decide) rfl) hN⟩ rfl rfl hl.1 rfl (lv_room (Nat.le_of_ble_eq_true rfl)) dX3_passing_21 ⟨Nat.zero_le _, Nat.zero_le _⟩) hS (fun q _ h => hFc q h) hFc (fun rz u t H locs ht hvm hw hB hz1 hk1 hS => ?_)
              obtain ⟨hP, hD⟩ := jn (wr := []) (w1 := [(ax, .inr (3, [.int vxb]))]) (ws' := [(ax, .inr (3, [.int vxb]))]) hP hD [0] [] rfl rfl (by decide) (by decide) hk1 hFc hB ht [0] rfl (by decide) rfl
              obtain ⟨hw, br1⟩ := hw
              replace hw := hw.symm
              subst hw
              clear hFc hB hk1 hz1 hvm
              refine lv_if_eq (tgt := 30) hx hb dX3_passing_24 (by decide) (fun c2 => ?_) (fun c2 => ?_)
              · rw [if_pos c2] at h
                refine lv_iinc (v := l3 + (1 : Int32)) (lv' := [(3, .int (l3 + (1 : Int32))), (0, .ref ax), (1, .int l1), (2, .int l2)]) hx hb dX3_passing_30 hl (k := 3) rfl rfl (by decide) rfl (fun ls hl => ?_)
                refine lv_goto (tgt := 12) hx hb dX3_passing_33 (by decide) ?_
                exact ih l1 l2 (l3 + (1 : Int32)) rs H locs ls h (lv_sub hl [1, 2, 3, 0] rfl) hP hD hS K
              · rw [if_neg c2] at h
                refine lv_iinc (v := l1 + (1 : Int32)) (lv' := [(1, .int (l1 + (1 : Int32))), (0, .ref ax), (2, .int l2), (3, .int l3)]) hx hb dX3_passing_27 hl (k := 1) rfl rfl (by decide) rfl (fun ls hl => ?_)
                refine lv_iinc (v := l3 + (1 : Int32)) (lv' := [(3, .int (l3 + (1 : Int32))), (1, .int (l1 + (1 : Int32))), (0, .ref ax), (2, .int l2)]) hx hb dX3_passing_30 hl (k := 3) rfl rfl (by decide) rfl (fun ls hl => ?_)
                refine lv_goto (tgt := 12) hx hb dX3_passing_33 (by decide) ?_
                exact ih (l1 + (1 : Int32)) l2 (l3 + (1 : Int32)) rs H locs ls h (lv_sub hl [2, 1, 3, 0] rfl) hP hD hS K
        obtain ⟨q5, hq5, h⟩ := bd_some h
        refine L12_3 FU l1 l2 (0 : Int32) q5 H locs ls hq5 (lv_sub hl [1, 2, 3, 0] rfl) hP hD hS (fun H locs ls hl hP hD hS => ?_)
        refine lv_iinc (v := l2 + (1 : Int32)) (lv' := [(2, .int (l2 + (1 : Int32))), (0, .ref ax), (1, .int q5.1), (3, .int q5.2)]) hx hb dX3_passing_36 hl (k := 2) rfl rfl (by decide) rfl (fun ls hl => ?_)
        refine lv_goto (tgt := 4) hx hb dX3_passing_39 (by decide) ?_
        exact ih q5.1 (l2 + (1 : Int32)) rs H locs ls h (lv_sub hl [1, 2, 0] rfl) hP hD hS K
  obtain ⟨q8, hq8, h⟩ := bd_some h
  refine L4_6 FU (0 : Int32) (0 : Int32) q8 H locs ls hq8 (lv_sub hl [2, 1, 0] rfl) hP hD hS (fun H locs ls hl hP hD hS => ?_)
  refine lv_iload_n hx hb dX3_passing_42 rfl (lv_at hl 1 rfl) ?_
  have h0 := Option.some.inj h
  subst h0
  exact W.iret hx hb hr (fun t ht hW => ⟨⟨_, (), rfl, rfl, QW_mk hP hK hD ht hW⟩, hS.F ht⟩) hS.2.2 dX3_passing_43

noncomputable def fX3_tellers_L5 (n : Nat) (l1 : Int32) (l2 : Int32) (l3 : Int32) (l4 : Int32) (vxb : Int32) : Option (Int32 × Int32) := match n with
  | 0 => none
  | n + 1 => if (8 : Int32) ≤ l4 then (some (l3, l4)) else (bd (fX3_at vxb l4) fun r1 => bd (fX3_at vxb (l1 ^^^ l4)) fun r2 => if (r1 ^^^ r2) = l2 then (fX3_tellers_L5 n l1 l2 (l3 + (1 : Int32)) (l4 + (1 : Int32)) vxb) else (fX3_tellers_L5 n l1 l2 l3 (l4 + (1 : Int32)) vxb))
theorem fX3_tellers_L5_0 (l1 : Int32) (l2 : Int32) (l3 : Int32) (l4 : Int32) (vxb : Int32) : fX3_tellers_L5 0 l1 l2 l3 l4 vxb = none := rfl
theorem fX3_tellers_L5_s (n : Nat) (l1 : Int32) (l2 : Int32) (l3 : Int32) (l4 : Int32) (vxb : Int32) : fX3_tellers_L5 (n + 1) l1 l2 l3 l4 vxb = if (8 : Int32) ≤ l4 then (some (l3, l4)) else (bd (fX3_at vxb l4) fun r1 => bd (fX3_at vxb (l1 ^^^ l4)) fun r2 => if (r1 ^^^ r2) = l2 then (fX3_tellers_L5 n l1 l2 (l3 + (1 : Int32)) (l4 + (1 : Int32)) vxb) else (fX3_tellers_L5 n l1 l2 l3 (l4 + (1 : Int32)) vxb)) := rfl
noncomputable def fX3_tellers (vxb : Int32) (p0 : Int32) (p1 : Int32) : Option (Int32) := bd (fX3_tellers_L5 FU p0 p1 (0 : Int32) (0 : Int32) vxb) fun q6 => some q6.1
set_option maxHeartbeats 4000000 in
set_option maxRecDepth 100000 in
theorem c_X3_tellers (l : Launch) (dC : Nat → ClassId) (dI : Nat → Nat → Nat) (cy : ClassId) (ax : Nat) (sz : Nat) (vxb : Int32) (p0 : Int32) (p1 : Int32) (res : Int32) (h : fX3_tellers vxb p0 p1 = some res) : Met l yX3_tellers wsX3_tellers ({ frames := 1, cells := 0, slots := 0, locals := 21 }) (va_Pc [.ref ax, .int p0, .int p1] (PW (dC, dI) cy sz [(ax, .inr (3, [.int vxb]))])) (va_Qi (fun (r : Int32) (_ : Unit) => r = res) (QW (dC, dI) cy (va_A [(ax, .inr (3, [.int vxb]))] sz) [(ax, .inr (3, [.int vxb]))]) (va_A [(ax, .inr (3, [.int vxb]))] sz)) 0 0 (va_A [(ax, .inr (3, [.int vxb]))] sz) := by
  refine Met.ofW (cc := cX3_tellers) (maxL := 5) (ret := (some .int)) (by decide) rfl ?_
  intro p e s m args below meth c s₁ B hml hv
  obtain ⟨rfl, hsz, hP, hK, hD0, hN⟩ := hv
  have hx := B.exec
  have hb := B.bytes
  have hr := B.returns
  have hts := atoms_spec (ws := wsX3_tellers) B.pre
  have hown : s.vm.findClass RX3 = some m.cls := findClass_of_methodNamed B.named
  have hlocks := B.notSynchronized
  subst hsz
  have hD := hD0.self (sz := s.heap.size)
  clear hD0
  generalize hAe : va_A [(ax, .inr (3, [.int vxb]))] s.heap.size = A at hD ⊢
  have hA : ∀ q : Nat, s.heap.size ≤ q → A q := fun q h => by rw [← hAe]; exact Or.inr h
  have hS : va_S A s.heap s.heap [] := va_S.rf
  have hl := lv_entry ([.ref ax, .int p0, .int p1]) (n := 5) (Nat.le_of_ble_eq_true rfl)
  rw [lg_entry_eq]
  generalize (lg_sl ([.ref ax, .int p0, .int p1]) ++ List.replicate (5 - (lg_sl ([.ref ax, .int p0, .int p1])).length) Slot.unset).toArray = ls at hl ⊢
  replace hl : lv_has ls 5 [(0, .ref ax), (1, .int p0), (2, .int p1)] := hl
  replace hP : va_P (dC, dI) vwCl [(ax, .inr (3, [.int vxb]))] s.heap := hP
  obtain ⟨locs, hlocs⟩ : ∃ lc : List Loc, lc = [] := ⟨_, rfl⟩
  rw [← hlocs] at hS ⊢
  obtain ⟨H, hH⟩ : ∃ H : Heap, H = s.heap := ⟨_, rfl⟩
  have hP2 := hP; rw [← hH] at hP2
  have hS2 : va_S A s.heap H locs := by rw [hH]; exact hS
  suffices hgo : W p l e (headSpec wsX3_tellers ({ frames := 1, cells := 0, slots := 0, locals := 21 })).room s m (([.ref ax, .int p0, .int p1] : List Value).toArray) below meth c H locs 0 0 (MQ below (va_Qi (fun (r : Int32) (_ : Unit) => r = res) (QW (dC, dI) cy A [(ax, .inr (3, [.int vxb]))]) A) (([.ref ax, .int p0, .int p1] : List Value).toArray) s 0 0 A) (F0 m 0 ls []) by rw [hH] at hgo; exact hgo
  replace hP := hP2
  replace hS := hS2
  clear hP2 hS2
  unfold fX3_tellers at h
  refine lv_iconst (v := (0 : Int32)) hx hb dX3_tellers_0 (by decide) ?_
  refine lv_istore_n (lv' := [(3, .int (0 : Int32)), (0, .ref ax), (1, .int p0), (2, .int p1)]) hx hb dX3_tellers_1 rfl hl (by decide) rfl (fun ls hl => ?_)
  refine lv_iconst (v := (0 : Int32)) hx hb dX3_tellers_2 (by decide) ?_
  refine lv_istore (lv' := [(4, .int (0 : Int32)), (3, .int (0 : Int32)), (0, .ref ax), (1, .int p0), (2, .int p1)]) hx hb dX3_tellers_3 hl (by decide) rfl (fun ls hl => ?_)
  have L5_4 : ∀ (n : Nat) (l1 : Int32) (l2 : Int32) (l3 : Int32) (l4 : Int32) (rs : (Int32 × Int32)) (H : Heap) (locs : List Loc) (ls : Array Slot), fX3_tellers_L5 n l1 l2 l3 l4 vxb = some rs → lv_has ls 5 [(0, .ref ax), (1, .int l1), (2, .int l2), (3, .int l3), (4, .int l4)] → va_P (dC, dI) vwCl [(ax, .inr (3, [.int vxb]))] H → va_D A [(ax, .inr (3, [.int vxb]))] → va_S A s.heap H locs → (∀ (H : Heap) (locs : List Loc) (ls : Array Slot), lv_has ls 5 [(0, .ref ax), (1, .int l1), (2, .int l2), (3, .int rs.1), (4, .int rs.2)] → va_P (dC, dI) vwCl [(ax, .inr (3, [.int vxb]))] H → va_D A [(ax, .inr (3, [.int vxb]))] → va_S A s.heap H locs → W p l e (headSpec wsX3_tellers ({ frames := 1, cells := 0, slots := 0, locals := 21 })).room s m (([.ref ax, .int p0, .int p1] : List Value).toArray) below meth c H locs 0 0 (MQ below (va_Qi (fun (r : Int32) (_ : Unit) => r = res) (QW (dC, dI) cy A [(ax, .inr (3, [.int vxb]))]) A) (([.ref ax, .int p0, .int p1] : List Value).toArray) s 0 0 A) (F0 m 40 ls [])) → W p l e (headSpec wsX3_tellers ({ frames := 1, cells := 0, slots := 0, locals := 21 })).room s m (([.ref ax, .int p0, .int p1] : List Value).toArray) below meth c H locs 0 0 (MQ below (va_Qi (fun (r : Int32) (_ : Unit) => r = res) (QW (dC, dI) cy A [(ax, .inr (3, [.int vxb]))]) A) (([.ref ax, .int p0, .int p1] : List Value).toArray) s 0 0 A) (F0 m 5 ls []) := by
    intro n
    induction n with
    | zero =>
      intro l1 l2 l3 l4 rs H locs ls h
      rw [fX3_tellers_L5_0] at h
      cases h
    | succ n ih =>
      intro l1 l2 l3 l4 rs H locs ls h hl hP hD hS K
      rw [fX3_tellers_L5_s] at h
      refine lv_iload hx hb dX3_tellers_5 (lv_at hl 4 rfl) ?_
      refine lv_bipush (v := (8 : Int32)) hx hb dX3_tellers_7 (by decide) ?_
      refine lv_icmp_ge (tgt := 40) hx hb dX3_tellers_9 (by decide) (fun c4 => ?_) (fun c4 => ?_)
      · rw [if_pos c4] at h
        have h0 := Option.some.inj h
        subst h0
        exact K H locs ls (lv_sub hl [0, 1, 2, 3, 4] rfl) hP hD hS
      · rw [if_neg c4] at h
        refine lv_aload_n hx hb dX3_tellers_12 rfl (lv_at hl 0 rfl) ?_
        refine lv_iload hx hb dX3_tellers_13 (lv_at hl 4 rfl) ?_
        obtain ⟨r1, hr1, h⟩ := bd_some h
        have hFc := va_free (wc := [(ax, .inr (3, [.int vxb]))]) hD hS hA [0] rfl
        refine va_calli (va_runV (As := [.int l4]) (rest := []) ⟨hx, hb, hml, hown, hts⟩ (c_X3_at l dC dI cy ax H.size vxb l4 r1 hr1) (cwV 1 hts gX3_tellers_X3_at rfl rfl rfl (by decide +kernel) ⟨Nat.le_of_ble_eq_true rfl, Nat.le_of_ble_eq_true rfl⟩) ⟨PW_fb, va_recv hK hP (ci := 3) (q0 := 0) rfl rfl, PW_pre (hP.sub (ws' := [(ax, .inr (3, [.int vxb]))]) [0] rfl) hK (hD.sub [0] (by decide) rfl) hN⟩ rfl rfl hl.1 rfl (lv_room (Nat.le_of_ble_eq_true rfl)) dX3_tellers_15 ⟨Nat.zero_le _, Nat.zero_le _⟩) hS (fun q _ h => hFc q h) hFc (fun rz u t H locs ht hvm hw hB hz1 hk1 hS => ?_)
        obtain ⟨hP, hD⟩ := jn (wr := []) (w1 := [(ax, .inr (3, [.int vxb]))]) (ws' := [(ax, .inr (3, [.int vxb]))]) hP hD [0] [] rfl rfl (by decide) (by decide) hk1 hFc hB ht [0] rfl (by decide) rfl
        replace hw := hw.symm
        subst hw
        clear hFc hB hk1 hz1 hvm
        refine lv_aload_n hx hb dX3_tellers_18 rfl (lv_at hl 0 rfl) ?_
        refine lv_iload_n hx hb dX3_tellers_19 rfl (lv_at hl 1 rfl) ?_
        refine lv_iload hx hb dX3_tellers_20 (lv_at hl 4 rfl) ?_
        refine lv_ixor hx hb dX3_tellers_22 ?_
        obtain ⟨r2, hr2, h⟩ := bd_some h
        have hFc := va_free (wc := [(ax, .inr (3, [.int vxb]))]) hD hS hA [0] rfl
        refine va_calli (va_runV (As := [.int (l1 ^^^ l4)]) (rest := [.int r1]) ⟨hx, hb, hml, hown, hts⟩ (c_X3_at l dC dI cy ax H.size vxb (l1 ^^^ l4) r2 hr2) (cwV 1 hts gX3_tellers_X3_at rfl rfl rfl (by decide +kernel) ⟨Nat.le_of_ble_eq_true rfl, Nat.le_of_ble_eq_true rfl⟩) ⟨PW_fb, va_recv hK hP (ci := 3) (q0 := 0) rfl rfl, PW_pre (hP.sub (ws' := [(ax, .inr (3, [.int vxb]))]) [0] rfl) hK (hD.sub [0] (by decide) rfl) hN⟩ rfl rfl hl.1 rfl (lv_room (Nat.le_of_ble_eq_true rfl)) dX3_tellers_23 ⟨Nat.zero_le _, Nat.zero_le _⟩) hS (fun q _ h => hFc q h) hFc (fun rz u t H locs ht hvm hw hB hz1 hk1 hS => ?_)
        obtain ⟨hP, hD⟩ := jn (wr := []) (w1 := [(ax, .inr (3, [.int vxb]))]) (ws' := [(ax, .inr (3, [.int vxb]))]) hP hD [0] [] rfl rfl (by decide) (by decide) hk1 hFc hB ht [0] rfl (by decide) rfl
        replace hw := hw.symm
        subst hw
        clear hFc hB hk1 hz1 hvm
        refine lv_ixor hx hb dX3_tellers_26 ?_
        refine lv_iload_n hx hb dX3_tellers_27 rfl (lv_at hl 2 rfl) ?_
        refine lv_icmp_ne (tgt := 34) hx hb dX3_tellers_28 (by decide) (fun c3 => ?_) (fun c3 => ?_)
        · rw [if_neg c3] at h
          refine lv_iinc (v := l4 + (1 : Int32)) (lv' := [(4, .int (l4 + (1 : Int32))), (0, .ref ax), (1, .int l1), (2, .int l2), (3, .int l3)]) hx hb dX3_tellers_34 hl (k := 4) rfl rfl (by decide) rfl (fun ls hl => ?_)
          refine lv_goto (tgt := 5) hx hb dX3_tellers_37 (by decide) ?_
          exact ih l1 l2 l3 (l4 + (1 : Int32)) rs H locs ls h (lv_sub hl [1, 2, 3, 4, 0] rfl) hP hD hS K
        · rw [if_pos c3] at h
          refine lv_iinc (v := l3 + (1 : Int32)) (lv' := [(3, .int (l3 + (1 : Int32))), (0, .ref ax), (1, .int l1), (2, .int l2), (4, .int l4)]) hx hb dX3_tellers_31 hl (k := 3) rfl rfl (by decide) rfl (fun ls hl => ?_)
          refine lv_iinc (v := l4 + (1 : Int32)) (lv' := [(4, .int (l4 + (1 : Int32))), (3, .int (l3 + (1 : Int32))), (0, .ref ax), (1, .int l1), (2, .int l2)]) hx hb dX3_tellers_34 hl (k := 4) rfl rfl (by decide) rfl (fun ls hl => ?_)
          refine lv_goto (tgt := 5) hx hb dX3_tellers_37 (by decide) ?_
          exact ih l1 l2 (l3 + (1 : Int32)) (l4 + (1 : Int32)) rs H locs ls h (lv_sub hl [2, 3, 4, 1, 0] rfl) hP hD hS K
  obtain ⟨q6, hq6, h⟩ := bd_some h
  refine L5_4 FU p0 p1 (0 : Int32) (0 : Int32) q6 H locs ls hq6 (lv_sub hl [2, 3, 4, 1, 0] rfl) hP hD hS (fun H locs ls hl hP hD hS => ?_)
  refine lv_iload_n hx hb dX3_tellers_40 rfl (lv_at hl 3 rfl) ?_
  have h0 := Option.some.inj h
  subst h0
  exact W.iret hx hb hr (fun t ht hW => ⟨⟨_, (), rfl, rfl, QW_mk hP hK hD ht hW⟩, hS.F ht⟩) hS.2.2 dX3_tellers_41
