noncomputable def fX5_passesTable  (p0 : Int32) (p1 : Int32) (p2 : Int32) : Option (Int32) := if (((p0 + p1) + p2) - ((p0 + p1) + p2) / (2 : Int32) * (2 : Int32)) = 0 then (some (1 : Int32)) else (some (0 : Int32))
set_option maxHeartbeats 4000000 in
set_option maxRecDepth 100000 in
theorem c_X5_passesTable (l : Launch) (dC : Nat → ClassId) (dI : Nat → Nat → Nat) (cy : ClassId)  (sz : Nat)  (p0 : Int32) (p1 : Int32) (p2 : Int32) (res : Int32) (h : fX5_passesTable p0 p1 p2 = some res) : Met l yX5_passesTable wsX5_passesTable ({ frames := 0, cells := 0, slots := 0, locals := 0 }) (va_Pc [.int p0, .int p1, .int p2] (PW (dC, dI) cy sz [])) (va_Qi (fun (r : Int32) (_ : Unit) => r = res ∧ bo r) (QW (dC, dI) cy (va_A [] sz) []) (va_A [] sz)) 0 0 (va_A [] sz) := by
  refine Met.ofW (cc := cX5_passesTable) (maxL := 3) (ret := (some .boolean)) (by decide) rfl ?_
  intro p e s m args below meth c s₁ B hml hv
  obtain ⟨rfl, hsz, hP, hK, hD0, hN⟩ := hv
  have hx := B.exec
  have hb := B.bytes
  have hr := B.returns
  have hts := atoms_spec (ws := wsX5_passesTable) B.pre
  have hown : s.vm.findClass RX5 = some m.cls := findClass_of_methodNamed B.named
  have hlocks := B.notSynchronized
  subst hsz
  have hD := hD0.self (sz := s.heap.size)
  clear hD0
  generalize hAe : va_A [] s.heap.size = A at hD ⊢
  have hA : ∀ q : Nat, s.heap.size ≤ q → A q := fun q h => by rw [← hAe]; exact Or.inr h
  have hS : va_S A s.heap s.heap [] := va_S.rf
  have hl := lv_entry ([.int p0, .int p1, .int p2]) (n := 3) (Nat.le_of_ble_eq_true rfl)
  rw [lg_entry_eq]
  generalize (lg_sl ([.int p0, .int p1, .int p2]) ++ List.replicate (3 - (lg_sl ([.int p0, .int p1, .int p2])).length) Slot.unset).toArray = ls at hl ⊢
  replace hl : lv_has ls 3 [(0, .int p0), (1, .int p1), (2, .int p2)] := hl
  replace hP : va_P (dC, dI) vwCl [] s.heap := hP
  obtain ⟨locs, hlocs⟩ : ∃ lc : List Loc, lc = [] := ⟨_, rfl⟩
  rw [← hlocs] at hS ⊢
  obtain ⟨H, hH⟩ : ∃ H : Heap, H = s.heap := ⟨_, rfl⟩
  have hP2 := hP; rw [← hH] at hP2
  have hS2 : va_S A s.heap H locs := by rw [hH]; exact hS
  suffices hgo : W p l e (headSpec wsX5_passesTable ({ frames := 0, cells := 0, slots := 0, locals := 0 })).room s m (([.int p0, .int p1, .int p2] : List Value).toArray) below meth c H locs 0 0 (MQ below (va_Qi (fun (r : Int32) (_ : Unit) => r = res ∧ bo r) (QW (dC, dI) cy A []) A) (([.int p0, .int p1, .int p2] : List Value).toArray) s 0 0 A) (F0 m 0 ls []) by rw [hH] at hgo; exact hgo
  replace hP := hP2
  replace hS := hS2
  clear hP2 hS2
  unfold fX5_passesTable at h
  refine lv_iload_n hx hb dX5_passesTable_0 rfl (lv_at hl 0 rfl) ?_
  refine lv_iload_n hx hb dX5_passesTable_1 rfl (lv_at hl 1 rfl) ?_
  refine lv_iadd hx hb dX5_passesTable_2 ?_
  refine lv_iload_n hx hb dX5_passesTable_3 rfl (lv_at hl 2 rfl) ?_
  refine lv_iadd hx hb dX5_passesTable_4 ?_
  refine lv_iconst (v := (2 : Int32)) hx hb dX5_passesTable_5 (by decide) ?_
  refine lv_irem hx hb dX5_passesTable_6 (by decide) ?_
  refine lv_if_ne (tgt := 14) hx hb dX5_passesTable_7 (by decide) (fun c1 => ?_) (fun c1 => ?_)
  · rw [if_neg c1] at h
    refine lv_iconst (v := (0 : Int32)) hx hb dX5_passesTable_14 (by decide) ?_
    have h0 := Option.some.inj h
    subst h0
    exact W.zret (ty := .boolean) hx hb hr bo_0 (fun t ht hW => ⟨⟨_, (), rfl, ⟨rfl, bo_0⟩, QW_mk hP hK hD ht hW⟩, hS.F ht⟩) hS.2.2 dX5_passesTable_15
  · rw [if_pos c1] at h
    refine lv_iconst (v := (1 : Int32)) hx hb dX5_passesTable_10 (by decide) ?_
    refine lv_goto (tgt := 15) hx hb dX5_passesTable_11 (by decide) ?_
    have h0 := Option.some.inj h
    subst h0
    exact W.zret (ty := .boolean) hx hb hr bo_1 (fun t ht hW => ⟨⟨_, (), rfl, ⟨rfl, bo_1⟩, QW_mk hP hK hD ht hW⟩, hS.F ht⟩) hS.2.2 dX5_passesTable_15

noncomputable def fX5_countRow_L99 (n : Nat) (l1 : Int32) (l2 : Int32) (l3 : Int32) (vxn : Int32) (vxA : Int64) (vxB : Int64) (fxi : Nat → Int32) : Option (Int32 × Int64 × Int64) := match n with
  | 0 => none
  | n + 1 => if vxn ≤ l3 then (some (l3, vxA, vxB)) else (bd (if l1 = 0 then (if l3 ≤ l2 then (some (vxA, vxB)) else (gin l2 8 (gin l3 8 (bd (if (fxi l3.toNatClampNeg) < (fxi l2.toNatClampNeg) then (some (0 : Int64)) else (some (1 : Int64))) fun q11 => some (vxA + q11, vxB + (1 : Int64)))))) else (some (vxA, vxB))) fun q10 => if l1 = (3 : Int32) then (gin l2 8 (gnz vxn (gin ((l2 + l3) - (l2 + l3) / vxn * vxn) 8 (bd (if (fxi l2.toNatClampNeg) = (fxi ((l2 + l3) - (l2 + l3) / vxn * vxn).toNatClampNeg) then (some (1 : Int64)) else (some (0 : Int64))) fun q15 => fX5_countRow_L99 n l1 l2 (l3 + (1 : Int32)) vxn (q10.1 + q15) (q10.2 + (1 : Int64)) fxi)))) else (fX5_countRow_L99 n l1 l2 (l3 + (1 : Int32)) vxn q10.1 q10.2 fxi))
theorem fX5_countRow_L99_0 (l1 : Int32) (l2 : Int32) (l3 : Int32) (vxn : Int32) (vxA : Int64) (vxB : Int64) (fxi : Nat → Int32) : fX5_countRow_L99 0 l1 l2 l3 vxn vxA vxB fxi = none := rfl
theorem fX5_countRow_L99_s (n : Nat) (l1 : Int32) (l2 : Int32) (l3 : Int32) (vxn : Int32) (vxA : Int64) (vxB : Int64) (fxi : Nat → Int32) : fX5_countRow_L99 (n + 1) l1 l2 l3 vxn vxA vxB fxi = if vxn ≤ l3 then (some (l3, vxA, vxB)) else (bd (if l1 = 0 then (if l3 ≤ l2 then (some (vxA, vxB)) else (gin l2 8 (gin l3 8 (bd (if (fxi l3.toNatClampNeg) < (fxi l2.toNatClampNeg) then (some (0 : Int64)) else (some (1 : Int64))) fun q11 => some (vxA + q11, vxB + (1 : Int64)))))) else (some (vxA, vxB))) fun q10 => if l1 = (3 : Int32) then (gin l2 8 (gnz vxn (gin ((l2 + l3) - (l2 + l3) / vxn * vxn) 8 (bd (if (fxi l2.toNatClampNeg) = (fxi ((l2 + l3) - (l2 + l3) / vxn * vxn).toNatClampNeg) then (some (1 : Int64)) else (some (0 : Int64))) fun q15 => fX5_countRow_L99 n l1 l2 (l3 + (1 : Int32)) vxn (q10.1 + q15) (q10.2 + (1 : Int64)) fxi)))) else (fX5_countRow_L99 n l1 l2 (l3 + (1 : Int32)) vxn q10.1 q10.2 fxi)) := rfl
noncomputable def fX5_countRow_L38 (n : Nat) (l1 : Int32) (l2 : Int32) (vxn : Int32) (vxA : Int64) (vxB : Int64) (fxi : Nat → Int32) : Option (Int32 × Int64 × Int64) := match n with
  | 0 => none
  | n + 1 => if vxn ≤ l2 then (some (l2, vxA, vxB)) else (bd (if l1 = (1 : Int32) then (gin l2 8 (gin ((vxn - (1 : Int32)) - l2) 8 (bd (if (fxi l2.toNatClampNeg) = (fxi ((vxn - (1 : Int32)) - l2).toNatClampNeg) then (some (1 : Int64)) else (some (0 : Int64))) fun q7 => some (vxA + q7, vxB + (1 : Int64))))) else (some (vxA, vxB))) fun q6 => bd (fX5_countRow_L99 FU l1 l2 (1 : Int32) vxn q6.1 q6.2 fxi) fun q20 => fX5_countRow_L38 n l1 (l2 + (1 : Int32)) vxn q20.2.1 q20.2.2 fxi)
theorem fX5_countRow_L38_0 (l1 : Int32) (l2 : Int32) (vxn : Int32) (vxA : Int64) (vxB : Int64) (fxi : Nat → Int32) : fX5_countRow_L38 0 l1 l2 vxn vxA vxB fxi = none := rfl
theorem fX5_countRow_L38_s (n : Nat) (l1 : Int32) (l2 : Int32) (vxn : Int32) (vxA : Int64) (vxB : Int64) (fxi : Nat → Int32) : fX5_countRow_L38 (n + 1) l1 l2 vxn vxA vxB fxi = if vxn ≤ l2 then (some (l2, vxA, vxB)) else (bd (if l1 = (1 : Int32) then (gin l2 8 (gin ((vxn - (1 : Int32)) - l2) 8 (bd (if (fxi l2.toNatClampNeg) = (fxi ((vxn - (1 : Int32)) - l2).toNatClampNeg) then (some (1 : Int64)) else (some (0 : Int64))) fun q7 => some (vxA + q7, vxB + (1 : Int64))))) else (some (vxA, vxB))) fun q6 => bd (fX5_countRow_L99 FU l1 l2 (1 : Int32) vxn q6.1 q6.2 fxi) fun q20 => fX5_countRow_L38 n l1 (l2 + (1 : Int32)) vxn q20.2.1 q20.2.2 fxi) := rfl
noncomputable def fX5_countRow (vxn : Int32) (vxA : Int64) (vxB : Int64) (fxi : Nat → Int32) (p0 : Int32) : Option (Int64 × Int64) := bd (if p0 = (2 : Int32) then (bd (fX5_fromEven vxn fxi) fun r2 => bd (if r2 = 0 then (some (1 : Int64)) else (some (0 : Int64))) fun q3 => some (q3, (1 : Int64))) else (some ((0 : Int64), (0 : Int64)))) fun q1 => bd (fX5_countRow_L38 FU p0 (0 : Int32) vxn q1.1 q1.2 fxi) fun q23 => some (q23.2.1, q23.2.2)
set_option maxHeartbeats 4000000 in
set_option maxRecDepth 100000 in
theorem c_X5_countRow (l : Launch) (dC : Nat → ClassId) (dI : Nat → Nat → Nat) (cy : ClassId) (ax axr axb axj axi axu : Nat) (sz : Nat) (vxn : Int32) (vxk : Int32) (vxA : Int64) (vxB : Int64) (vxC : Int64) (vxE : Int64) (fxi : Nat → Int32) (p0 : Int32) (res : Int64 × Int64) (h : fX5_countRow vxn vxA vxB fxi p0 = some res) : Met l yX5_countRow wsX5_countRow ({ frames := 1, cells := 0, slots := 0, locals := 22 }) (va_Pc [.ref ax, .int p0] (PW (dC, dI) cy sz [(ax, .inr (5, [.int vxn, .ref axr, .ref axb, .ref axj, .int vxk, .ref axi, .ref axu, .long vxA, .long vxB, .long vxC, .long vxE])), (axi, .inl (cy, 8, .inl fxi))])) (va_Qv (fun (_ : Unit) => True) (QW (dC, dI) cy (va_A [(ax, .inr (5, [.int vxn, .ref axr, .ref axb, .ref axj, .int vxk, .ref axi, .ref axu, .long vxA, .long vxB, .long vxC, .long vxE])), (axi, .inl (cy, 8, .inl fxi))] sz) [(ax, .inr (5, [.int vxn, .ref axr, .ref axb, .ref axj, .int vxk, .ref axi, .ref axu, .long res.1, .long res.2, .long vxC, .long vxE])), (axi, .inl (cy, 8, .inl fxi))]) (va_A [(ax, .inr (5, [.int vxn, .ref axr, .ref axb, .ref axj, .int vxk, .ref axi, .ref axu, .long vxA, .long vxB, .long vxC, .long vxE])), (axi, .inl (cy, 8, .inl fxi))] sz)) 0 0 (va_A [(ax, .inr (5, [.int vxn, .ref axr, .ref axb, .ref axj, .int vxk, .ref axi, .ref axu, .long vxA, .long vxB, .long vxC, .long vxE])), (axi, .inl (cy, 8, .inl fxi))] sz) := by
  refine Met.ofW (cc := cX5_countRow) (maxL := 4) (ret := none) (by decide) rfl ?_
  intro p e s m args below meth c s₁ B hml hv
  obtain ⟨rfl, hsz, hP, hK, hD0, hN⟩ := hv
  have hx := B.exec
  have hb := B.bytes
  have hr := B.returns
  have hts := atoms_spec (ws := wsX5_countRow) B.pre
  have hown : s.vm.findClass RX5 = some m.cls := findClass_of_methodNamed B.named
  have hlocks := B.notSynchronized
  subst hsz
  have hD := hD0.self (sz := s.heap.size)
  clear hD0
  generalize hAe : va_A [(ax, .inr (5, [.int vxn, .ref axr, .ref axb, .ref axj, .int vxk, .ref axi, .ref axu, .long vxA, .long vxB, .long vxC, .long vxE])), (axi, .inl (cy, 8, .inl fxi))] s.heap.size = A at hD ⊢
  have hA : ∀ q : Nat, s.heap.size ≤ q → A q := fun q h => by rw [← hAe]; exact Or.inr h
  have hS : va_S A s.heap s.heap [] := va_S.rf
  have hl := lv_entry ([.ref ax, .int p0]) (n := 4) (Nat.le_of_ble_eq_true rfl)
  rw [lg_entry_eq]
  generalize (lg_sl ([.ref ax, .int p0]) ++ List.replicate (4 - (lg_sl ([.ref ax, .int p0])).length) Slot.unset).toArray = ls at hl ⊢
  replace hl : lv_has ls 4 [(0, .ref ax), (1, .int p0)] := hl
  replace hP : va_P (dC, dI) vwCl [(ax, .inr (5, [.int vxn, .ref axr, .ref axb, .ref axj, .int vxk, .ref axi, .ref axu, .long vxA, .long vxB, .long vxC, .long vxE])), (axi, .inl (cy, 8, .inl fxi))] s.heap := hP
  obtain ⟨locs, hlocs⟩ : ∃ lc : List Loc, lc = [] := ⟨_, rfl⟩
  rw [← hlocs] at hS ⊢
  obtain ⟨H, hH⟩ : ∃ H : Heap, H = s.heap := ⟨_, rfl⟩
  have hP2 := hP; rw [← hH] at hP2
  have hS2 : va_S A s.heap H locs := by rw [hH]; exact hS
  suffices hgo : W p l e (headSpec wsX5_countRow ({ frames := 1, cells := 0, slots := 0, locals := 22 })).room s m (([.ref ax, .int p0] : List Value).toArray) below meth c H locs 0 0 (MQ below (va_Qv (fun (_ : Unit) => True) (QW (dC, dI) cy A [(ax, .inr (5, [.int vxn, .ref axr, .ref axb, .ref axj, .int vxk, .ref axi, .ref axu, .long res.1, .long res.2, .long vxC, .long vxE])), (axi, .inl (cy, 8, .inl fxi))]) A) (([.ref ax, .int p0] : List Value).toArray) s 0 0 A) (F0 m 0 ls []) by rw [hH] at hgo; exact hgo
  replace hP := hP2
  replace hS := hS2
  clear hP2 hS2
  have hin_X5 : ∀ w ∈ wsX50, w ∈ wsX5_countRow := by decide +kernel
  have hf_7 := hts (.fieldLink RX5 7 "FewLooksModel" "n" "I") (by decide +kernel)
  have hf_26 := hts (.fieldLink RX5 26 "FewLooksModel" "it" "[I") (by decide +kernel)
  have hf_107 := hts (.fieldLink RX5 107 "FewLooksModel" "above" "J") (by decide +kernel)
  have hf_111 := hts (.fieldLink RX5 111 "FewLooksModel" "below" "J") (by decide +kernel)
  unfold fX5_countRow at h
  refine lv_aload_n hx hb dX5_countRow_0 rfl (lv_at hl 0 rfl) ?_
  refine lv_lconst (v := (0 : Int64)) hx hb dX5_countRow_1 (by decide) ?_
  refine va_put (D := (dC, dI)) (ci := 5) (v := .long (0 : Int64)) (ty := .long) (C := RX5) (T := TX5) (N := 11) hx hb hts hin_X5 tyX5 tyX5_ok nmX5 hown hK hP hD hS 0 rfl rfl 7 (by decide) (hf_107) (fun _ h9 => h9) rfl (by decide +kernel) rfl rfl (Nat.le_of_ble_eq_true rfl) dX5_countRow_2 (fun H locs hP hD hS => ?_)
  replace hP : va_P (dC, dI) vwCl [(ax, .inr (5, [.int vxn, .ref axr, .ref axb, .ref axj, .int vxk, .ref axi, .ref axu, .long (0 : Int64), .long vxB, .long vxC, .long vxE])), (axi, .inl (cy, 8, .inl fxi))] H := hP
  replace hD : va_D A [(ax, .inr (5, [.int vxn, .ref axr, .ref axb, .ref axj, .int vxk, .ref axi, .ref axu, .long (0 : Int64), .long vxB, .long vxC, .long vxE])), (axi, .inl (cy, 8, .inl fxi))] := hD
  refine lv_aload_n hx hb dX5_countRow_5 rfl (lv_at hl 0 rfl) ?_
  refine lv_lconst (v := (0 : Int64)) hx hb dX5_countRow_6 (by decide) ?_
  refine va_put (D := (dC, dI)) (ci := 5) (v := .long (0 : Int64)) (ty := .long) (C := RX5) (T := TX5) (N := 11) hx hb hts hin_X5 tyX5 tyX5_ok nmX5 hown hK hP hD hS 0 rfl rfl 8 (by decide) (hf_111) (fun _ h9 => h9) rfl (by decide +kernel) rfl rfl (Nat.le_of_ble_eq_true rfl) dX5_countRow_7 (fun H locs hP hD hS => ?_)
  replace hP : va_P (dC, dI) vwCl [(ax, .inr (5, [.int vxn, .ref axr, .ref axb, .ref axj, .int vxk, .ref axi, .ref axu, .long (0 : Int64), .long (0 : Int64), .long vxC, .long vxE])), (axi, .inl (cy, 8, .inl fxi))] H := hP
  replace hD : va_D A [(ax, .inr (5, [.int vxn, .ref axr, .ref axb, .ref axj, .int vxk, .ref axi, .ref axu, .long (0 : Int64), .long (0 : Int64), .long vxC, .long vxE])), (axi, .inl (cy, 8, .inl fxi))] := hD
  refine lv_iload_n hx hb dX5_countRow_10 rfl (lv_at hl 1 rfl) ?_
  refine lv_iconst (v := (2 : Int32)) hx hb dX5_countRow_11 (by decide) ?_
  obtain ⟨q1, hq1, h⟩ := bd_some h
  have Jq1 : ∀ (H : Heap) (locs : List Loc) (ls : Array Slot), lv_has ls 4 [(0, .ref ax), (1, .int p0)] → va_P (dC, dI) vwCl [(ax, .inr (5, [.int vxn, .ref axr, .ref axb, .ref axj, .int vxk, .ref axi, .ref axu, .long q1.1, .long q1.2, .long vxC, .long vxE])), (axi, .inl (cy, 8, .inl fxi))] H → va_D A [(ax, .inr (5, [.int vxn, .ref axr, .ref axb, .ref axj, .int vxk, .ref axi, .ref axu, .long q1.1, .long q1.2, .long vxC, .long vxE])), (axi, .inl (cy, 8, .inl fxi))] → va_S A s.heap H locs → W p l e (headSpec wsX5_countRow ({ frames := 1, cells := 0, slots := 0, locals := 22 })).room s m (([.ref ax, .int p0] : List Value).toArray) below meth c H locs 0 0 (MQ below (va_Qv (fun (_ : Unit) => True) (QW (dC, dI) cy A [(ax, .inr (5, [.int vxn, .ref axr, .ref axb, .ref axj, .int vxk, .ref axi, .ref axu, .long res.1, .long res.2, .long vxC, .long vxE])), (axi, .inl (cy, 8, .inl fxi))]) A) (([.ref ax, .int p0] : List Value).toArray) s 0 0 A) (F0 m 36 ls []) := by
    intro H locs ls hl hP hD hS
    refine lv_iconst (v := (0 : Int32)) hx hb dX5_countRow_36 (by decide) ?_
    refine lv_istore_n (lv' := [(2, .int (0 : Int32)), (0, .ref ax), (1, .int p0)]) hx hb dX5_countRow_37 rfl hl (by decide) rfl (fun ls hl => ?_)
    have L38_21 : ∀ (n : Nat) (l1 : Int32) (l2 : Int32) (vxA : Int64) (vxB : Int64) (rs : (Int32 × Int64 × Int64)) (H : Heap) (locs : List Loc) (ls : Array Slot), fX5_countRow_L38 n l1 l2 vxn vxA vxB fxi = some rs → lv_has ls 4 [(0, .ref ax), (1, .int l1), (2, .int l2)] → va_P (dC, dI) vwCl [(ax, .inr (5, [.int vxn, .ref axr, .ref axb, .ref axj, .int vxk, .ref axi, .ref axu, .long vxA, .long vxB, .long vxC, .long vxE])), (axi, .inl (cy, 8, .inl fxi))] H → va_D A [(ax, .inr (5, [.int vxn, .ref axr, .ref axb, .ref axj, .int vxk, .ref axi, .ref axu, .long vxA, .long vxB, .long vxC, .long vxE])), (axi, .inl (cy, 8, .inl fxi))] → va_S A s.heap H locs → (∀ (H : Heap) (locs : List Loc) (ls : Array Slot), lv_has ls 4 [(0, .ref ax), (1, .int l1), (2, .int rs.1)] → va_P (dC, dI) vwCl [(ax, .inr (5, [.int vxn, .ref axr, .ref axb, .ref axj, .int vxk, .ref axi, .ref axu, .long rs.2.1, .long rs.2.2, .long vxC, .long vxE])), (axi, .inl (cy, 8, .inl fxi))] H → va_D A [(ax, .inr (5, [.int vxn, .ref axr, .ref axb, .ref axj, .int vxk, .ref axi, .ref axu, .long rs.2.1, .long rs.2.2, .long vxC, .long vxE])), (axi, .inl (cy, 8, .inl fxi))] → va_S A s.heap H locs → W p l e (headSpec wsX5_countRow ({ frames := 1, cells := 0, slots := 0, locals := 22 })).room s m (([.ref ax, .int p0] : List Value).toArray) below meth c H locs 0 0 (MQ below (va_Qv (fun (_ : Unit) => True) (QW (dC, dI) cy A [(ax, .inr (5, [.int vxn, .ref axr, .ref axb, .ref axj, .int vxk, .ref axi, .ref axu, .long res.1, .long res.2, .long vxC, .long vxE])), (axi, .inl (cy, 8, .inl fxi))]) A) (([.ref ax, .int p0] : List Value).toArray) s 0 0 A) (F0 m 218 ls [])) → W p l e (headSpec wsX5_countRow ({ frames := 1, cells := 0, slots := 0, locals := 22 })).room s m (([.ref ax, .int p0] : List Value).toArray) below meth c H locs 0 0 (MQ below (va_Qv (fun (_ : Unit) => True) (QW (dC, dI) cy A [(ax, .inr (5, [.int vxn, .ref axr, .ref axb, .ref axj, .int vxk, .ref axi, .ref axu, .long res.1, .long res.2, .long vxC, .long vxE])), (axi, .inl (cy, 8, .inl fxi))]) A) (([.ref ax, .int p0] : List Value).toArray) s 0 0 A) (F0 m 38 ls []) := by
      intro n
      induction n with
      | zero =>
        intro l1 l2 vxA vxB rs H locs ls h
        rw [fX5_countRow_L38_0] at h
        cases h
      | succ n ih =>
        intro l1 l2 vxA vxB rs H locs ls h hl hP hD hS K
        rw [fX5_countRow_L38_s] at h
        refine lv_iload_n hx hb dX5_countRow_38 rfl (lv_at hl 2 rfl) ?_
        refine lv_aload_n hx hb dX5_countRow_39 rfl (lv_at hl 0 rfl) ?_
        refine va_get (D := (dC, dI)) (ci := 5) (v := .int vxn) (C := RX5) (T := TX5) (N := 11) hx hb hts hin_X5 hown hK hP 0 rfl rfl 0 (by decide) (hf_7) (fun _ h9 => h9) rfl dX5_countRow_40 ?_
        refine lv_icmp_ge (tgt := 218) hx hb dX5_countRow_43 (by decide) (fun c21 => ?_) (fun c21 => ?_)
        · rw [if_pos c21] at h
          have h0 := Option.some.inj h
          subst h0
          exact K H locs ls (lv_sub hl [0, 1, 2] rfl) hP hD hS
        · rw [if_neg c21] at h
          refine lv_iload_n hx hb dX5_countRow_46 rfl (lv_at hl 1 rfl) ?_
          refine lv_iconst (v := (1 : Int32)) hx hb dX5_countRow_47 (by decide) ?_
          obtain ⟨q6, hq6, h⟩ := bd_some h
          have Jq6 : ∀ (H : Heap) (locs : List Loc) (ls : Array Slot), lv_has ls 4 [(0, .ref ax), (1, .int l1), (2, .int l2)] → va_P (dC, dI) vwCl [(ax, .inr (5, [.int vxn, .ref axr, .ref axb, .ref axj, .int vxk, .ref axi, .ref axu, .long q6.1, .long q6.2, .long vxC, .long vxE])), (axi, .inl (cy, 8, .inl fxi))] H → va_D A [(ax, .inr (5, [.int vxn, .ref axr, .ref axb, .ref axj, .int vxk, .ref axi, .ref axu, .long q6.1, .long q6.2, .long vxC, .long vxE])), (axi, .inl (cy, 8, .inl fxi))] → va_S A s.heap H locs → W p l e (headSpec wsX5_countRow ({ frames := 1, cells := 0, slots := 0, locals := 22 })).room s m (([.ref ax, .int p0] : List Value).toArray) below meth c H locs 0 0 (MQ below (va_Qv (fun (_ : Unit) => True) (QW (dC, dI) cy A [(ax, .inr (5, [.int vxn, .ref axr, .ref axb, .ref axj, .int vxk, .ref axi, .ref axu, .long res.1, .long res.2, .long vxC, .long vxE])), (axi, .inl (cy, 8, .inl fxi))]) A) (([.ref ax, .int p0] : List Value).toArray) s 0 0 A) (F0 m 97 ls []) := by
            intro H locs ls hl hP hD hS
            refine lv_iconst (v := (1 : Int32)) hx hb dX5_countRow_97 (by decide) ?_
            refine lv_istore_n (lv' := [(3, .int (1 : Int32)), (0, .ref ax), (1, .int l1), (2, .int l2)]) hx hb dX5_countRow_98 rfl hl (by decide) rfl (fun ls hl => ?_)
            have L99_18 : ∀ (n : Nat) (l1 : Int32) (l2 : Int32) (l3 : Int32) (vxA : Int64) (vxB : Int64) (rs : (Int32 × Int64 × Int64)) (H : Heap) (locs : List Loc) (ls : Array Slot), fX5_countRow_L99 n l1 l2 l3 vxn vxA vxB fxi = some rs → lv_has ls 4 [(0, .ref ax), (1, .int l1), (2, .int l2), (3, .int l3)] → va_P (dC, dI) vwCl [(ax, .inr (5, [.int vxn, .ref axr, .ref axb, .ref axj, .int vxk, .ref axi, .ref axu, .long vxA, .long vxB, .long vxC, .long vxE])), (axi, .inl (cy, 8, .inl fxi))] H → va_D A [(ax, .inr (5, [.int vxn, .ref axr, .ref axb, .ref axj, .int vxk, .ref axi, .ref axu, .long vxA, .long vxB, .long vxC, .long vxE])), (axi, .inl (cy, 8, .inl fxi))] → va_S A s.heap H locs → (∀ (H : Heap) (locs : List Loc) (ls : Array Slot), lv_has ls 4 [(0, .ref ax), (1, .int l1), (2, .int l2), (3, .int rs.1)] → va_P (dC, dI) vwCl [(ax, .inr (5, [.int vxn, .ref axr, .ref axb, .ref axj, .int vxk, .ref axi, .ref axu, .long rs.2.1, .long rs.2.2, .long vxC, .long vxE])), (axi, .inl (cy, 8, .inl fxi))] H → va_D A [(ax, .inr (5, [.int vxn, .ref axr, .ref axb, .ref axj, .int vxk, .ref axi, .ref axu, .long rs.2.1, .long rs.2.2, .long vxC, .long vxE])), (axi, .inl (cy, 8, .inl fxi))] → va_S A s.heap H locs → W p l e (headSpec wsX5_countRow ({ frames := 1, cells := 0, slots := 0, locals := 22 })).room s m (([.ref ax, .int p0] : List Value).toArray) below meth c H locs 0 0 (MQ below (va_Qv (fun (_ : Unit) => True) (QW (dC, dI) cy A [(ax, .inr (5, [.int vxn, .ref axr, .ref axb, .ref axj, .int vxk, .ref axi, .ref axu, .long res.1, .long res.2, .long vxC, .long vxE])), (axi, .inl (cy, 8, .inl fxi))]) A) (([.ref ax, .int p0] : List Value).toArray) s 0 0 A) (F0 m 212 ls [])) → W p l e (headSpec wsX5_countRow ({ frames := 1, cells := 0, slots := 0, locals := 22 })).room s m (([.ref ax, .int p0] : List Value).toArray) below meth c H locs 0 0 (MQ below (va_Qv (fun (_ : Unit) => True) (QW (dC, dI) cy A [(ax, .inr (5, [.int vxn, .ref axr, .ref axb, .ref axj, .int vxk, .ref axi, .ref axu, .long res.1, .long res.2, .long vxC, .long vxE])), (axi, .inl (cy, 8, .inl fxi))]) A) (([.ref ax, .int p0] : List Value).toArray) s 0 0 A) (F0 m 99 ls []) := by
              intro n
              induction n with
              | zero =>
                intro l1 l2 l3 vxA vxB rs H locs ls h
                rw [fX5_countRow_L99_0] at h
                cases h
              | succ n ih =>
                intro l1 l2 l3 vxA vxB rs H locs ls h hl hP hD hS K
                rw [fX5_countRow_L99_s] at h
                refine lv_iload_n hx hb dX5_countRow_99 rfl (lv_at hl 3 rfl) ?_
                refine lv_aload_n hx hb dX5_countRow_100 rfl (lv_at hl 0 rfl) ?_
                refine va_get (D := (dC, dI)) (ci := 5) (v := .int vxn) (C := RX5) (T := TX5) (N := 11) hx hb hts hin_X5 hown hK hP 0 rfl rfl 0 (by decide) (hf_7) (fun _ h9 => h9) rfl dX5_countRow_101 ?_
                refine lv_icmp_ge (tgt := 212) hx hb dX5_countRow_104 (by decide) (fun c18 => ?_) (fun c18 => ?_)
                · rw [if_pos c18] at h
                  have h0 := Option.some.inj h
                  subst h0
                  exact K H locs ls (lv_sub hl [0, 1, 2, 3] rfl) hP hD hS
                · rw [if_neg c18] at h
                  refine lv_iload_n hx hb dX5_countRow_107 rfl (lv_at hl 1 rfl) ?_
                  obtain ⟨q10, hq10, h⟩ := bd_some h
                  have Jq10 : ∀ (H : Heap) (locs : List Loc) (ls : Array Slot), lv_has ls 4 [(0, .ref ax), (1, .int l1), (2, .int l2), (3, .int l3)] → va_P (dC, dI) vwCl [(ax, .inr (5, [.int vxn, .ref axr, .ref axb, .ref axj, .int vxk, .ref axi, .ref axu, .long q10.1, .long q10.2, .long vxC, .long vxE])), (axi, .inl (cy, 8, .inl fxi))] H → va_D A [(ax, .inr (5, [.int vxn, .ref axr, .ref axb, .ref axj, .int vxk, .ref axi, .ref axu, .long q10.1, .long q10.2, .long vxC, .long vxE])), (axi, .inl (cy, 8, .inl fxi))] → va_S A s.heap H locs → W p l e (headSpec wsX5_countRow ({ frames := 1, cells := 0, slots := 0, locals := 22 })).room s m (([.ref ax, .int p0] : List Value).toArray) below meth c H locs 0 0 (MQ below (va_Qv (fun (_ : Unit) => True) (QW (dC, dI) cy A [(ax, .inr (5, [.int vxn, .ref axr, .ref axb, .ref axj, .int vxk, .ref axi, .ref axu, .long res.1, .long res.2, .long vxC, .long vxE])), (axi, .inl (cy, 8, .inl fxi))]) A) (([.ref ax, .int p0] : List Value).toArray) s 0 0 A) (F0 m 155 ls []) := by
                    intro H locs ls hl hP hD hS
                    refine lv_iload_n hx hb dX5_countRow_155 rfl (lv_at hl 1 rfl) ?_
                    refine lv_iconst (v := (3 : Int32)) hx hb dX5_countRow_156 (by decide) ?_
                    refine lv_icmp_ne (tgt := 206) hx hb dX5_countRow_157 (by decide) (fun c17 => ?_) (fun c17 => ?_)
                    · rw [if_neg c17] at h
                      refine lv_iinc (v := l3 + (1 : Int32)) (lv' := [(3, .int (l3 + (1 : Int32))), (0, .ref ax), (1, .int l1), (2, .int l2)]) hx hb dX5_countRow_206 hl (k := 3) rfl rfl (by decide) rfl (fun ls hl => ?_)
                      refine lv_goto (tgt := 99) hx hb dX5_countRow_209 (by decide) ?_
                      exact ih l1 l2 (l3 + (1 : Int32)) q10.1 q10.2 rs H locs ls h (lv_sub hl [1, 2, 3, 0] rfl) hP hD hS K
                    · rw [if_pos c17] at h
                      refine lv_aload_n hx hb dX5_countRow_160 rfl (lv_at hl 0 rfl) ?_
                      refine lv_dup hx hb dX5_countRow_161 rfl ?_
                      refine va_get (D := (dC, dI)) (ci := 5) (v := .long q10.1) (C := RX5) (T := TX5) (N := 11) hx hb hts hin_X5 hown hK hP 0 rfl rfl 7 (by decide) (hf_107) (fun _ h9 => h9) rfl dX5_countRow_162 ?_
                      refine lv_aload_n hx hb dX5_countRow_165 rfl (lv_at hl 0 rfl) ?_
                      refine va_get (D := (dC, dI)) (ci := 5) (v := .ref axi) (C := RX5) (T := TX5) (N := 11) hx hb hts hin_X5 hown hK hP 0 rfl rfl 5 (by decide) (hf_26) (fun _ h9 => h9) rfl dX5_countRow_166 ?_
                      refine lv_iload_n hx hb dX5_countRow_169 rfl (lv_at hl 2 rfl) ?_
                      obtain ⟨hi, h⟩ := gin_some h
                      refine va_iald hx hb hK hP 1 0 rfl rfl hi dX5_countRow_170 ?_
                      refine lv_aload_n hx hb dX5_countRow_171 rfl (lv_at hl 0 rfl) ?_
                      refine va_get (D := (dC, dI)) (ci := 5) (v := .ref axi) (C := RX5) (T := TX5) (N := 11) hx hb hts hin_X5 hown hK hP 0 rfl rfl 5 (by decide) (hf_26) (fun _ h9 => h9) rfl dX5_countRow_172 ?_
                      refine lv_iload_n hx hb dX5_countRow_175 rfl (lv_at hl 2 rfl) ?_
                      refine lv_iload_n hx hb dX5_countRow_176 rfl (lv_at hl 3 rfl) ?_
                      refine lv_iadd hx hb dX5_countRow_177 ?_
                      refine lv_aload_n hx hb dX5_countRow_178 rfl (lv_at hl 0 rfl) ?_
                      refine va_get (D := (dC, dI)) (ci := 5) (v := .int vxn) (C := RX5) (T := TX5) (N := 11) hx hb hts hin_X5 hown hK hP 0 rfl rfl 0 (by decide) (hf_7) (fun _ h9 => h9) rfl dX5_countRow_179 ?_
                      obtain ⟨hz, h⟩ := gnz_some h
                      refine lv_irem hx hb dX5_countRow_182 hz ?_
                      obtain ⟨hi, h⟩ := gin_some h
                      refine va_iald hx hb hK hP 1 0 rfl rfl hi dX5_countRow_183 ?_
                      obtain ⟨q15, hq15, h⟩ := bd_some h
                      have Jq15 : ∀ (H : Heap) (locs : List Loc) (ls : Array Slot), lv_has ls 4 [(0, .ref ax), (1, .int l1), (2, .int l2), (3, .int l3)] → va_P (dC, dI) vwCl [(ax, .inr (5, [.int vxn, .ref axr, .ref axb, .ref axj, .int vxk, .ref axi, .ref axu, .long q10.1, .long q10.2, .long vxC, .long vxE])), (axi, .inl (cy, 8, .inl fxi))] H → va_D A [(ax, .inr (5, [.int vxn, .ref axr, .ref axb, .ref axj, .int vxk, .ref axi, .ref axu, .long q10.1, .long q10.2, .long vxC, .long vxE])), (axi, .inl (cy, 8, .inl fxi))] → va_S A s.heap H locs → W p l e (headSpec wsX5_countRow ({ frames := 1, cells := 0, slots := 0, locals := 22 })).room s m (([.ref ax, .int p0] : List Value).toArray) below meth c H locs 0 0 (MQ below (va_Qv (fun (_ : Unit) => True) (QW (dC, dI) cy A [(ax, .inr (5, [.int vxn, .ref axr, .ref axb, .ref axj, .int vxk, .ref axi, .ref axu, .long res.1, .long res.2, .long vxC, .long vxE])), (axi, .inl (cy, 8, .inl fxi))]) A) (([.ref ax, .int p0] : List Value).toArray) s 0 0 A) (F0 m 192 ls [.long q15, .long q10.1, .ref ax]) := by
                        intro H locs ls hl hP hD hS
                        refine lv_ladd hx hb dX5_countRow_192 ?_
                        refine va_put (D := (dC, dI)) (ci := 5) (v := .long (q10.1 + q15)) (ty := .long) (C := RX5) (T := TX5) (N := 11) hx hb hts hin_X5 tyX5 tyX5_ok nmX5 hown hK hP hD hS 0 rfl rfl 7 (by decide) (hf_107) (fun _ h9 => h9) rfl (by decide +kernel) rfl rfl (Nat.le_of_ble_eq_true rfl) dX5_countRow_193 (fun H locs hP hD hS => ?_)
                        replace hP : va_P (dC, dI) vwCl [(ax, .inr (5, [.int vxn, .ref axr, .ref axb, .ref axj, .int vxk, .ref axi, .ref axu, .long (q10.1 + q15), .long q10.2, .long vxC, .long vxE])), (axi, .inl (cy, 8, .inl fxi))] H := hP
                        replace hD : va_D A [(ax, .inr (5, [.int vxn, .ref axr, .ref axb, .ref axj, .int vxk, .ref axi, .ref axu, .long (q10.1 + q15), .long q10.2, .long vxC, .long vxE])), (axi, .inl (cy, 8, .inl fxi))] := hD
                        refine lv_aload_n hx hb dX5_countRow_196 rfl (lv_at hl 0 rfl) ?_
                        refine lv_dup hx hb dX5_countRow_197 rfl ?_
                        refine va_get (D := (dC, dI)) (ci := 5) (v := .long q10.2) (C := RX5) (T := TX5) (N := 11) hx hb hts hin_X5 hown hK hP 0 rfl rfl 8 (by decide) (hf_111) (fun _ h9 => h9) rfl dX5_countRow_198 ?_
                        refine lv_lconst (v := (1 : Int64)) hx hb dX5_countRow_201 (by decide) ?_
                        refine lv_ladd hx hb dX5_countRow_202 ?_
                        refine va_put (D := (dC, dI)) (ci := 5) (v := .long (q10.2 + (1 : Int64))) (ty := .long) (C := RX5) (T := TX5) (N := 11) hx hb hts hin_X5 tyX5 tyX5_ok nmX5 hown hK hP hD hS 0 rfl rfl 8 (by decide) (hf_111) (fun _ h9 => h9) rfl (by decide +kernel) rfl rfl (Nat.le_of_ble_eq_true rfl) dX5_countRow_203 (fun H locs hP hD hS => ?_)
                        replace hP : va_P (dC, dI) vwCl [(ax, .inr (5, [.int vxn, .ref axr, .ref axb, .ref axj, .int vxk, .ref axi, .ref axu, .long (q10.1 + q15), .long (q10.2 + (1 : Int64)), .long vxC, .long vxE])), (axi, .inl (cy, 8, .inl fxi))] H := hP
                        replace hD : va_D A [(ax, .inr (5, [.int vxn, .ref axr, .ref axb, .ref axj, .int vxk, .ref axi, .ref axu, .long (q10.1 + q15), .long (q10.2 + (1 : Int64)), .long vxC, .long vxE])), (axi, .inl (cy, 8, .inl fxi))] := hD
                        refine lv_iinc (v := l3 + (1 : Int32)) (lv' := [(3, .int (l3 + (1 : Int32))), (0, .ref ax), (1, .int l1), (2, .int l2)]) hx hb dX5_countRow_206 hl (k := 3) rfl rfl (by decide) rfl (fun ls hl => ?_)
                        refine lv_goto (tgt := 99) hx hb dX5_countRow_209 (by decide) ?_
                        exact ih l1 l2 (l3 + (1 : Int32)) (q10.1 + q15) (q10.2 + (1 : Int64)) rs H locs ls h (lv_sub hl [1, 2, 3, 0] rfl) hP hD hS K
                      replace h := hq15
                      refine lv_icmp_ne (tgt := 191) hx hb dX5_countRow_184 (by decide) (fun c16 => ?_) (fun c16 => ?_)
                      · rw [if_neg c16] at h
                        refine lv_lconst (v := (0 : Int64)) hx hb dX5_countRow_191 (by decide) ?_
                        have h0 := Option.some.inj h
                        subst h0
                        exact Jq15 H locs ls (lv_sub hl [0, 1, 2, 3] rfl) hP hD hS
                      · rw [if_pos c16] at h
                        refine lv_lconst (v := (1 : Int64)) hx hb dX5_countRow_187 (by decide) ?_
                        refine lv_goto (tgt := 192) hx hb dX5_countRow_188 (by decide) ?_
                        have h0 := Option.some.inj h
                        subst h0
                        exact Jq15 H locs ls (lv_sub hl [0, 1, 2, 3] rfl) hP hD hS
                  replace h := hq10
                  refine lv_if_ne (tgt := 155) hx hb dX5_countRow_108 (by decide) (fun c14 => ?_) (fun c14 => ?_)
                  · rw [if_neg c14] at h
                    have h0 := Option.some.inj h
                    subst h0
                    exact Jq10 H locs ls (lv_sub hl [0, 1, 2, 3] rfl) hP hD hS
                  · rw [if_pos c14] at h
                    refine lv_iload_n hx hb dX5_countRow_111 rfl (lv_at hl 2 rfl) ?_
                    refine lv_iload_n hx hb dX5_countRow_112 rfl (lv_at hl 3 rfl) ?_
                    refine lv_icmp_ge (tgt := 155) hx hb dX5_countRow_113 (by decide) (fun c13 => ?_) (fun c13 => ?_)
                    · rw [if_pos c13] at h
                      have h0 := Option.some.inj h
                      subst h0
                      exact Jq10 H locs ls (lv_sub hl [0, 1, 2, 3] rfl) hP hD hS
                    · rw [if_neg c13] at h
                      refine lv_aload_n hx hb dX5_countRow_116 rfl (lv_at hl 0 rfl) ?_
                      refine lv_dup hx hb dX5_countRow_117 rfl ?_
                      refine va_get (D := (dC, dI)) (ci := 5) (v := .long vxA) (C := RX5) (T := TX5) (N := 11) hx hb hts hin_X5 hown hK hP 0 rfl rfl 7 (by decide) (hf_107) (fun _ h9 => h9) rfl dX5_countRow_118 ?_
                      refine lv_aload_n hx hb dX5_countRow_121 rfl (lv_at hl 0 rfl) ?_
                      refine va_get (D := (dC, dI)) (ci := 5) (v := .ref axi) (C := RX5) (T := TX5) (N := 11) hx hb hts hin_X5 hown hK hP 0 rfl rfl 5 (by decide) (hf_26) (fun _ h9 => h9) rfl dX5_countRow_122 ?_
                      refine lv_iload_n hx hb dX5_countRow_125 rfl (lv_at hl 2 rfl) ?_
                      obtain ⟨hi, h⟩ := gin_some h
                      refine va_iald hx hb hK hP 1 0 rfl rfl hi dX5_countRow_126 ?_
                      refine lv_aload_n hx hb dX5_countRow_127 rfl (lv_at hl 0 rfl) ?_
                      refine va_get (D := (dC, dI)) (ci := 5) (v := .ref axi) (C := RX5) (T := TX5) (N := 11) hx hb hts hin_X5 hown hK hP 0 rfl rfl 5 (by decide) (hf_26) (fun _ h9 => h9) rfl dX5_countRow_128 ?_
                      refine lv_iload_n hx hb dX5_countRow_131 rfl (lv_at hl 3 rfl) ?_
                      obtain ⟨hi, h⟩ := gin_some h
                      refine va_iald hx hb hK hP 1 0 rfl rfl hi dX5_countRow_132 ?_
                      obtain ⟨q11, hq11, h⟩ := bd_some h
                      have Jq11 : ∀ (H : Heap) (locs : List Loc) (ls : Array Slot), lv_has ls 4 [(0, .ref ax), (1, .int l1), (2, .int l2), (3, .int l3)] → va_P (dC, dI) vwCl [(ax, .inr (5, [.int vxn, .ref axr, .ref axb, .ref axj, .int vxk, .ref axi, .ref axu, .long vxA, .long vxB, .long vxC, .long vxE])), (axi, .inl (cy, 8, .inl fxi))] H → va_D A [(ax, .inr (5, [.int vxn, .ref axr, .ref axb, .ref axj, .int vxk, .ref axi, .ref axu, .long vxA, .long vxB, .long vxC, .long vxE])), (axi, .inl (cy, 8, .inl fxi))] → va_S A s.heap H locs → W p l e (headSpec wsX5_countRow ({ frames := 1, cells := 0, slots := 0, locals := 22 })).room s m (([.ref ax, .int p0] : List Value).toArray) below meth c H locs 0 0 (MQ below (va_Qv (fun (_ : Unit) => True) (QW (dC, dI) cy A [(ax, .inr (5, [.int vxn, .ref axr, .ref axb, .ref axj, .int vxk, .ref axi, .ref axu, .long res.1, .long res.2, .long vxC, .long vxE])), (axi, .inl (cy, 8, .inl fxi))]) A) (([.ref ax, .int p0] : List Value).toArray) s 0 0 A) (F0 m 141 ls [.long q11, .long vxA, .ref ax]) := by
                        intro H locs ls hl hP hD hS
                        refine lv_ladd hx hb dX5_countRow_141 ?_
                        refine va_put (D := (dC, dI)) (ci := 5) (v := .long (vxA + q11)) (ty := .long) (C := RX5) (T := TX5) (N := 11) hx hb hts hin_X5 tyX5 tyX5_ok nmX5 hown hK hP hD hS 0 rfl rfl 7 (by decide) (hf_107) (fun _ h9 => h9) rfl (by decide +kernel) rfl rfl (Nat.le_of_ble_eq_true rfl) dX5_countRow_142 (fun H locs hP hD hS => ?_)
                        replace hP : va_P (dC, dI) vwCl [(ax, .inr (5, [.int vxn, .ref axr, .ref axb, .ref axj, .int vxk, .ref axi, .ref axu, .long (vxA + q11), .long vxB, .long vxC, .long vxE])), (axi, .inl (cy, 8, .inl fxi))] H := hP
                        replace hD : va_D A [(ax, .inr (5, [.int vxn, .ref axr, .ref axb, .ref axj, .int vxk, .ref axi, .ref axu, .long (vxA + q11), .long vxB, .long vxC, .long vxE])), (axi, .inl (cy, 8, .inl fxi))] := hD
                        refine lv_aload_n hx hb dX5_countRow_145 rfl (lv_at hl 0 rfl) ?_
                        refine lv_dup hx hb dX5_countRow_146 rfl ?_
                        refine va_get (D := (dC, dI)) (ci := 5) (v := .long vxB) (C := RX5) (T := TX5) (N := 11) hx hb hts hin_X5 hown hK hP 0 rfl rfl 8 (by decide) (hf_111) (fun _ h9 => h9) rfl dX5_countRow_147 ?_
                        refine lv_lconst (v := (1 : Int64)) hx hb dX5_countRow_150 (by decide) ?_
                        refine lv_ladd hx hb dX5_countRow_151 ?_
                        refine va_put (D := (dC, dI)) (ci := 5) (v := .long (vxB + (1 : Int64))) (ty := .long) (C := RX5) (T := TX5) (N := 11) hx hb hts hin_X5 tyX5 tyX5_ok nmX5 hown hK hP hD hS 0 rfl rfl 8 (by decide) (hf_111) (fun _ h9 => h9) rfl (by decide +kernel) rfl rfl (Nat.le_of_ble_eq_true rfl) dX5_countRow_152 (fun H locs hP hD hS => ?_)
                        replace hP : va_P (dC, dI) vwCl [(ax, .inr (5, [.int vxn, .ref axr, .ref axb, .ref axj, .int vxk, .ref axi, .ref axu, .long (vxA + q11), .long (vxB + (1 : Int64)), .long vxC, .long vxE])), (axi, .inl (cy, 8, .inl fxi))] H := hP
                        replace hD : va_D A [(ax, .inr (5, [.int vxn, .ref axr, .ref axb, .ref axj, .int vxk, .ref axi, .ref axu, .long (vxA + q11), .long (vxB + (1 : Int64)), .long vxC, .long vxE])), (axi, .inl (cy, 8, .inl fxi))] := hD
                        have h0 := Option.some.inj h
                        subst h0
                        exact Jq10 H locs ls (lv_sub hl [0, 1, 2, 3] rfl) hP hD hS
                      replace h := hq11
                      refine lv_icmp_gt (tgt := 140) hx hb dX5_countRow_133 (by decide) (fun c12 => ?_) (fun c12 => ?_)
                      · rw [if_pos c12] at h
                        refine lv_lconst (v := (0 : Int64)) hx hb dX5_countRow_140 (by decide) ?_
                        have h0 := Option.some.inj h
                        subst h0
                        exact Jq11 H locs ls (lv_sub hl [0, 1, 2, 3] rfl) hP hD hS
                      · rw [if_neg c12] at h
                        refine lv_lconst (v := (1 : Int64)) hx hb dX5_countRow_136 (by decide) ?_
                        refine lv_goto (tgt := 141) hx hb dX5_countRow_137 (by decide) ?_
                        have h0 := Option.some.inj h
                        subst h0
                        exact Jq11 H locs ls (lv_sub hl [0, 1, 2, 3] rfl) hP hD hS
            obtain ⟨q20, hq20, h⟩ := bd_some h
            refine L99_18 FU l1 l2 (1 : Int32) q6.1 q6.2 q20 H locs ls hq20 (lv_sub hl [1, 2, 3, 0] rfl) hP hD hS (fun H locs ls hl hP hD hS => ?_)
            refine lv_iinc (v := l2 + (1 : Int32)) (lv' := [(2, .int (l2 + (1 : Int32))), (0, .ref ax), (1, .int l1), (3, .int q20.1)]) hx hb dX5_countRow_212 hl (k := 2) rfl rfl (by decide) rfl (fun ls hl => ?_)
            refine lv_goto (tgt := 38) hx hb dX5_countRow_215 (by decide) ?_
            exact ih l1 (l2 + (1 : Int32)) q20.2.1 q20.2.2 rs H locs ls h (lv_sub hl [1, 2, 0] rfl) hP hD hS K
          replace h := hq6
          refine lv_icmp_ne (tgt := 97) hx hb dX5_countRow_48 (by decide) (fun c9 => ?_) (fun c9 => ?_)
          · rw [if_neg c9] at h
            have h0 := Option.some.inj h
            subst h0
            exact Jq6 H locs ls (lv_sub hl [0, 1, 2] rfl) hP hD hS
          · rw [if_pos c9] at h
            refine lv_aload_n hx hb dX5_countRow_51 rfl (lv_at hl 0 rfl) ?_
            refine lv_dup hx hb dX5_countRow_52 rfl ?_
            refine va_get (D := (dC, dI)) (ci := 5) (v := .long vxA) (C := RX5) (T := TX5) (N := 11) hx hb hts hin_X5 hown hK hP 0 rfl rfl 7 (by decide) (hf_107) (fun _ h9 => h9) rfl dX5_countRow_53 ?_
            refine lv_aload_n hx hb dX5_countRow_56 rfl (lv_at hl 0 rfl) ?_
            refine va_get (D := (dC, dI)) (ci := 5) (v := .ref axi) (C := RX5) (T := TX5) (N := 11) hx hb hts hin_X5 hown hK hP 0 rfl rfl 5 (by decide) (hf_26) (fun _ h9 => h9) rfl dX5_countRow_57 ?_
            refine lv_iload_n hx hb dX5_countRow_60 rfl (lv_at hl 2 rfl) ?_
            obtain ⟨hi, h⟩ := gin_some h
            refine va_iald hx hb hK hP 1 0 rfl rfl hi dX5_countRow_61 ?_
            refine lv_aload_n hx hb dX5_countRow_62 rfl (lv_at hl 0 rfl) ?_
            refine va_get (D := (dC, dI)) (ci := 5) (v := .ref axi) (C := RX5) (T := TX5) (N := 11) hx hb hts hin_X5 hown hK hP 0 rfl rfl 5 (by decide) (hf_26) (fun _ h9 => h9) rfl dX5_countRow_63 ?_
            refine lv_aload_n hx hb dX5_countRow_66 rfl (lv_at hl 0 rfl) ?_
            refine va_get (D := (dC, dI)) (ci := 5) (v := .int vxn) (C := RX5) (T := TX5) (N := 11) hx hb hts hin_X5 hown hK hP 0 rfl rfl 0 (by decide) (hf_7) (fun _ h9 => h9) rfl dX5_countRow_67 ?_
            refine lv_iconst (v := (1 : Int32)) hx hb dX5_countRow_70 (by decide) ?_
            refine lv_isub hx hb dX5_countRow_71 ?_
            refine lv_iload_n hx hb dX5_countRow_72 rfl (lv_at hl 2 rfl) ?_
            refine lv_isub hx hb dX5_countRow_73 ?_
            obtain ⟨hi, h⟩ := gin_some h
            refine va_iald hx hb hK hP 1 0 rfl rfl hi dX5_countRow_74 ?_
            obtain ⟨q7, hq7, h⟩ := bd_some h
            have Jq7 : ∀ (H : Heap) (locs : List Loc) (ls : Array Slot), lv_has ls 4 [(0, .ref ax), (1, .int l1), (2, .int l2)] → va_P (dC, dI) vwCl [(ax, .inr (5, [.int vxn, .ref axr, .ref axb, .ref axj, .int vxk, .ref axi, .ref axu, .long vxA, .long vxB, .long vxC, .long vxE])), (axi, .inl (cy, 8, .inl fxi))] H → va_D A [(ax, .inr (5, [.int vxn, .ref axr, .ref axb, .ref axj, .int vxk, .ref axi, .ref axu, .long vxA, .long vxB, .long vxC, .long vxE])), (axi, .inl (cy, 8, .inl fxi))] → va_S A s.heap H locs → W p l e (headSpec wsX5_countRow ({ frames := 1, cells := 0, slots := 0, locals := 22 })).room s m (([.ref ax, .int p0] : List Value).toArray) below meth c H locs 0 0 (MQ below (va_Qv (fun (_ : Unit) => True) (QW (dC, dI) cy A [(ax, .inr (5, [.int vxn, .ref axr, .ref axb, .ref axj, .int vxk, .ref axi, .ref axu, .long res.1, .long res.2, .long vxC, .long vxE])), (axi, .inl (cy, 8, .inl fxi))]) A) (([.ref ax, .int p0] : List Value).toArray) s 0 0 A) (F0 m 83 ls [.long q7, .long vxA, .ref ax]) := by
              intro H locs ls hl hP hD hS
              refine lv_ladd hx hb dX5_countRow_83 ?_
              refine va_put (D := (dC, dI)) (ci := 5) (v := .long (vxA + q7)) (ty := .long) (C := RX5) (T := TX5) (N := 11) hx hb hts hin_X5 tyX5 tyX5_ok nmX5 hown hK hP hD hS 0 rfl rfl 7 (by decide) (hf_107) (fun _ h9 => h9) rfl (by decide +kernel) rfl rfl (Nat.le_of_ble_eq_true rfl) dX5_countRow_84 (fun H locs hP hD hS => ?_)
              replace hP : va_P (dC, dI) vwCl [(ax, .inr (5, [.int vxn, .ref axr, .ref axb, .ref axj, .int vxk, .ref axi, .ref axu, .long (vxA + q7), .long vxB, .long vxC, .long vxE])), (axi, .inl (cy, 8, .inl fxi))] H := hP
              replace hD : va_D A [(ax, .inr (5, [.int vxn, .ref axr, .ref axb, .ref axj, .int vxk, .ref axi, .ref axu, .long (vxA + q7), .long vxB, .long vxC, .long vxE])), (axi, .inl (cy, 8, .inl fxi))] := hD
              refine lv_aload_n hx hb dX5_countRow_87 rfl (lv_at hl 0 rfl) ?_
              refine lv_dup hx hb dX5_countRow_88 rfl ?_
              refine va_get (D := (dC, dI)) (ci := 5) (v := .long vxB) (C := RX5) (T := TX5) (N := 11) hx hb hts hin_X5 hown hK hP 0 rfl rfl 8 (by decide) (hf_111) (fun _ h9 => h9) rfl dX5_countRow_89 ?_
              refine lv_lconst (v := (1 : Int64)) hx hb dX5_countRow_92 (by decide) ?_
              refine lv_ladd hx hb dX5_countRow_93 ?_
              refine va_put (D := (dC, dI)) (ci := 5) (v := .long (vxB + (1 : Int64))) (ty := .long) (C := RX5) (T := TX5) (N := 11) hx hb hts hin_X5 tyX5 tyX5_ok nmX5 hown hK hP hD hS 0 rfl rfl 8 (by decide) (hf_111) (fun _ h9 => h9) rfl (by decide +kernel) rfl rfl (Nat.le_of_ble_eq_true rfl) dX5_countRow_94 (fun H locs hP hD hS => ?_)
              replace hP : va_P (dC, dI) vwCl [(ax, .inr (5, [.int vxn, .ref axr, .ref axb, .ref axj, .int vxk, .ref axi, .ref axu, .long (vxA + q7), .long (vxB + (1 : Int64)), .long vxC, .long vxE])), (axi, .inl (cy, 8, .inl fxi))] H := hP
              replace hD : va_D A [(ax, .inr (5, [.int vxn, .ref axr, .ref axb, .ref axj, .int vxk, .ref axi, .ref axu, .long (vxA + q7), .long (vxB + (1 : Int64)), .long vxC, .long vxE])), (axi, .inl (cy, 8, .inl fxi))] := hD
              have h0 := Option.some.inj h
              subst h0
              exact Jq6 H locs ls (lv_sub hl [0, 1, 2] rfl) hP hD hS
            replace h := hq7
            refine lv_icmp_ne (tgt := 82) hx hb dX5_countRow_75 (by decide) (fun c8 => ?_) (fun c8 => ?_)
            · rw [if_neg c8] at h
              refine lv_lconst (v := (0 : Int64)) hx hb dX5_countRow_82 (by decide) ?_
              have h0 := Option.some.inj h
              subst h0
              exact Jq7 H locs ls (lv_sub hl [0, 1, 2] rfl) hP hD hS
            · rw [if_pos c8] at h
              refine lv_lconst (v := (1 : Int64)) hx hb dX5_countRow_78 (by decide) ?_
              refine lv_goto (tgt := 83) hx hb dX5_countRow_79 (by decide) ?_
              have h0 := Option.some.inj h
              subst h0
              exact Jq7 H locs ls (lv_sub hl [0, 1, 2] rfl) hP hD hS
    obtain ⟨q23, hq23, h⟩ := bd_some h
    refine L38_21 FU p0 (0 : Int32) q1.1 q1.2 q23 H locs ls hq23 (lv_sub hl [1, 2, 0] rfl) hP hD hS (fun H locs ls hl hP hD hS => ?_)
    have h0 := Option.some.inj h
    subst h0
    exact W.vret hx hb hr (fun t ht hW => ⟨⟨(), rfl, trivial, QW_mk hP hK hD ht hW⟩, hS.F ht⟩) hS.2.2 dX5_countRow_218
  replace h := hq1
  refine lv_icmp_ne (tgt := 36) hx hb dX5_countRow_12 (by decide) (fun c5 => ?_) (fun c5 => ?_)
  · rw [if_neg c5] at h
    have h0 := Option.some.inj h
    subst h0
    exact Jq1 H locs ls (lv_sub hl [0, 1] rfl) hP hD hS
  · rw [if_pos c5] at h
    refine lv_aload_n hx hb dX5_countRow_15 rfl (lv_at hl 0 rfl) ?_
    refine lv_aload_n hx hb dX5_countRow_16 rfl (lv_at hl 0 rfl) ?_
    obtain ⟨r2, hr2, h⟩ := bd_some h
    have hFc := va_free (wc := [(ax, .inr (5, [.int vxn, .ref axr, .ref axb, .ref axj, .int vxk, .ref axi, .ref axu, .long (0 : Int64), .long (0 : Int64), .long vxC, .long vxE])), (axi, .inl (cy, 8, .inl fxi))]) hD hS hA [0, 1] rfl
    refine va_calli (va_runV (As := []) (rest := [.ref ax]) ⟨hx, hb, hml, hown, hts⟩ (c_X5_fromEven l dC dI cy ax axr axb axj axi axu H.size vxn vxk (0 : Int64) (0 : Int64) vxC vxE fxi  r2 hr2) (cwV 0 hts gX5_countRow_X5_fromEven rfl rfl rfl (by decide +kernel) ⟨Nat.le_of_ble_eq_true rfl, Nat.le_of_ble_eq_true rfl⟩) ⟨PW_fb, va_recv hK hP (ci := 5) (q0 := 0) rfl rfl, PW_pre (hP.sub (ws' := [(ax, .inr (5, [.int vxn, .ref axr, .ref axb, .ref axj, .int vxk, .ref axi, .ref axu, .long (0 : Int64), .long (0 : Int64), .long vxC, .long vxE])), (axi, .inl (cy, 8, .inl fxi))]) [0, 1] rfl) hK (hD.sub [0, 1] (by decide) rfl) hN⟩ rfl rfl hl.1 rfl (lv_room (Nat.le_of_ble_eq_true rfl)) dX5_countRow_17 ⟨Nat.zero_le _, Nat.zero_le _⟩) hS (fun q _ h => hFc q h) hFc (fun rz u t H locs ht hvm hw hB hz1 hk1 hS => ?_)
    obtain ⟨hP, hD⟩ := jn (wr := []) (w1 := [(ax, .inr (5, [.int vxn, .ref axr, .ref axb, .ref axj, .int vxk, .ref axi, .ref axu, .long (0 : Int64), .long (0 : Int64), .long vxC, .long vxE])), (axi, .inl (cy, 8, .inl fxi))]) (ws' := [(ax, .inr (5, [.int vxn, .ref axr, .ref axb, .ref axj, .int vxk, .ref axi, .ref axu, .long (0 : Int64), .long (0 : Int64), .long vxC, .long vxE])), (axi, .inl (cy, 8, .inl fxi))]) hP hD [0, 1] [] rfl rfl (by decide) (by decide) hk1 hFc hB ht [0, 1] rfl (by decide) rfl
    replace hw := hw.symm
    subst hw
    clear hFc hB hk1 hz1 hvm
    obtain ⟨q3, hq3, h⟩ := bd_some h
    have Jq3 : ∀ (H : Heap) (locs : List Loc) (ls : Array Slot), lv_has ls 4 [(0, .ref ax), (1, .int p0)] → va_P (dC, dI) vwCl [(ax, .inr (5, [.int vxn, .ref axr, .ref axb, .ref axj, .int vxk, .ref axi, .ref axu, .long (0 : Int64), .long (0 : Int64), .long vxC, .long vxE])), (axi, .inl (cy, 8, .inl fxi))] H → va_D A [(ax, .inr (5, [.int vxn, .ref axr, .ref axb, .ref axj, .int vxk, .ref axi, .ref axu, .long (0 : Int64), .long (0 : Int64), .long vxC, .long vxE])), (axi, .inl (cy, 8, .inl fxi))] → va_S A s.heap H locs → W p l e (headSpec wsX5_countRow ({ frames := 1, cells := 0, slots := 0, locals := 22 })).room s m (([.ref ax, .int p0] : List Value).toArray) below meth c H locs 0 0 (MQ below (va_Qv (fun (_ : Unit) => True) (QW (dC, dI) cy A [(ax, .inr (5, [.int vxn, .ref axr, .ref axb, .ref axj, .int vxk, .ref axi, .ref axu, .long res.1, .long res.2, .long vxC, .long vxE])), (axi, .inl (cy, 8, .inl fxi))]) A) (([.ref ax, .int p0] : List Value).toArray) s 0 0 A) (F0 m 28 ls [.long q3, .ref ax]) := by
      intro H locs ls hl hP hD hS
      refine va_put (D := (dC, dI)) (ci := 5) (v := .long q3) (ty := .long) (C := RX5) (T := TX5) (N := 11) hx hb hts hin_X5 tyX5 tyX5_ok nmX5 hown hK hP hD hS 0 rfl rfl 7 (by decide) (hf_107) (fun _ h9 => h9) rfl (by decide +kernel) rfl rfl (Nat.le_of_ble_eq_true rfl) dX5_countRow_28 (fun H locs hP hD hS => ?_)
      replace hP : va_P (dC, dI) vwCl [(ax, .inr (5, [.int vxn, .ref axr, .ref axb, .ref axj, .int vxk, .ref axi, .ref axu, .long q3, .long (0 : Int64), .long vxC, .long vxE])), (axi, .inl (cy, 8, .inl fxi))] H := hP
      replace hD : va_D A [(ax, .inr (5, [.int vxn, .ref axr, .ref axb, .ref axj, .int vxk, .ref axi, .ref axu, .long q3, .long (0 : Int64), .long vxC, .long vxE])), (axi, .inl (cy, 8, .inl fxi))] := hD
      refine lv_aload_n hx hb dX5_countRow_31 rfl (lv_at hl 0 rfl) ?_
      refine lv_lconst (v := (1 : Int64)) hx hb dX5_countRow_32 (by decide) ?_
      refine va_put (D := (dC, dI)) (ci := 5) (v := .long (1 : Int64)) (ty := .long) (C := RX5) (T := TX5) (N := 11) hx hb hts hin_X5 tyX5 tyX5_ok nmX5 hown hK hP hD hS 0 rfl rfl 8 (by decide) (hf_111) (fun _ h9 => h9) rfl (by decide +kernel) rfl rfl (Nat.le_of_ble_eq_true rfl) dX5_countRow_33 (fun H locs hP hD hS => ?_)
      replace hP : va_P (dC, dI) vwCl [(ax, .inr (5, [.int vxn, .ref axr, .ref axb, .ref axj, .int vxk, .ref axi, .ref axu, .long q3, .long (1 : Int64), .long vxC, .long vxE])), (axi, .inl (cy, 8, .inl fxi))] H := hP
      replace hD : va_D A [(ax, .inr (5, [.int vxn, .ref axr, .ref axb, .ref axj, .int vxk, .ref axi, .ref axu, .long q3, .long (1 : Int64), .long vxC, .long vxE])), (axi, .inl (cy, 8, .inl fxi))] := hD
      have h0 := Option.some.inj h
      subst h0
      exact Jq1 H locs ls (lv_sub hl [0, 1] rfl) hP hD hS
    replace h := hq3
    refine lv_if_ne (tgt := 27) hx hb dX5_countRow_20 (by decide) (fun c4 => ?_) (fun c4 => ?_)
    · rw [if_neg c4] at h
      refine lv_lconst (v := (0 : Int64)) hx hb dX5_countRow_27 (by decide) ?_
      have h0 := Option.some.inj h
      subst h0
      exact Jq3 H locs ls (lv_sub hl [0, 1] rfl) hP hD hS
    · rw [if_pos c4] at h
      refine lv_lconst (v := (1 : Int64)) hx hb dX5_countRow_23 (by decide) ?_
      refine lv_goto (tgt := 28) hx hb dX5_countRow_24 (by decide) ?_
      have h0 := Option.some.inj h
      subst h0
      exact Jq3 H locs ls (lv_sub hl [0, 1] rfl) hP hD hS

noncomputable def fX5_countTable_L22 (n : Nat) (l1 : Int32) (l2 : Int32) (vxA : Int64) (fxb : Nat → Int32) : Option (Int32 × Int64) := match n with
  | 0 => none
  | n + 1 => if (8 : Int32) ≤ l2 then (some (l2, vxA)) else (gin l1 8 (gin l2 8 (gin (l1 ^^^ l2) 8 (bd (fX5_passesTable (fxb l1.toNatClampNeg) (fxb l2.toNatClampNeg) (fxb (l1 ^^^ l2).toNatClampNeg)) fun r1 => if r1 = 0 then (fX5_countTable_L22 n l1 (l2 + (1 : Int32)) (vxA + (0 : Int64)) fxb) else (fX5_countTable_L22 n l1 (l2 + (1 : Int32)) (vxA + (1 : Int64)) fxb)))))
theorem fX5_countTable_L22_0 (l1 : Int32) (l2 : Int32) (vxA : Int64) (fxb : Nat → Int32) : fX5_countTable_L22 0 l1 l2 vxA fxb = none := rfl
theorem fX5_countTable_L22_s (n : Nat) (l1 : Int32) (l2 : Int32) (vxA : Int64) (fxb : Nat → Int32) : fX5_countTable_L22 (n + 1) l1 l2 vxA fxb = if (8 : Int32) ≤ l2 then (some (l2, vxA)) else (gin l1 8 (gin l2 8 (gin (l1 ^^^ l2) 8 (bd (fX5_passesTable (fxb l1.toNatClampNeg) (fxb l2.toNatClampNeg) (fxb (l1 ^^^ l2).toNatClampNeg)) fun r1 => if r1 = 0 then (fX5_countTable_L22 n l1 (l2 + (1 : Int32)) (vxA + (0 : Int64)) fxb) else (fX5_countTable_L22 n l1 (l2 + (1 : Int32)) (vxA + (1 : Int64)) fxb))))) := rfl
noncomputable def fX5_countTable_L14 (n : Nat) (l1 : Int32) (vxA : Int64) (fxb : Nat → Int32) : Option (Int32 × Int64) := match n with
  | 0 => none
  | n + 1 => if (8 : Int32) ≤ l1 then (some (l1, vxA)) else (bd (fX5_countTable_L22 FU l1 (0 : Int32) vxA fxb) fun q5 => fX5_countTable_L14 n (l1 + (1 : Int32)) q5.2 fxb)
theorem fX5_countTable_L14_0 (l1 : Int32) (vxA : Int64) (fxb : Nat → Int32) : fX5_countTable_L14 0 l1 vxA fxb = none := rfl
theorem fX5_countTable_L14_s (n : Nat) (l1 : Int32) (vxA : Int64) (fxb : Nat → Int32) : fX5_countTable_L14 (n + 1) l1 vxA fxb = if (8 : Int32) ≤ l1 then (some (l1, vxA)) else (bd (fX5_countTable_L22 FU l1 (0 : Int32) vxA fxb) fun q5 => fX5_countTable_L14 n (l1 + (1 : Int32)) q5.2 fxb) := rfl
noncomputable def fX5_countTable (vxA : Int64) (vxB : Int64) (fxb : Nat → Int32)  : Option (Int64 × Int64) := bd (fX5_countTable_L14 FU (0 : Int32) (0 : Int64) fxb) fun q8 => some (q8.2, (64 : Int64))
set_option maxHeartbeats 4000000 in
set_option maxRecDepth 100000 in
theorem c_X5_countTable (l : Launch) (dC : Nat → ClassId) (dI : Nat → Nat → Nat) (cy : ClassId) (ax axr axb axj axi axu : Nat) (sz : Nat) (vxn : Int32) (vxk : Int32) (vxA : Int64) (vxB : Int64) (vxC : Int64) (vxE : Int64) (fxb : Nat → Int32)  (res : Int64 × Int64) (h : fX5_countTable vxA vxB fxb = some res) : Met l yX5_countTable wsX5_countTable ({ frames := 1, cells := 0, slots := 0, locals := 22 }) (va_Pc [.ref ax] (PW (dC, dI) cy sz [(ax, .inr (5, [.int vxn, .ref axr, .ref axb, .ref axj, .int vxk, .ref axi, .ref axu, .long vxA, .long vxB, .long vxC, .long vxE])), (axb, .inl (cy, 8, .inl fxb))])) (va_Qv (fun (_ : Unit) => True) (QW (dC, dI) cy (va_A [(ax, .inr (5, [.int vxn, .ref axr, .ref axb, .ref axj, .int vxk, .ref axi, .ref axu, .long vxA, .long vxB, .long vxC, .long vxE])), (axb, .inl (cy, 8, .inl fxb))] sz) [(ax, .inr (5, [.int vxn, .ref axr, .ref axb, .ref axj, .int vxk, .ref axi, .ref axu, .long res.1, .long res.2, .long vxC, .long vxE])), (axb, .inl (cy, 8, .inl fxb))]) (va_A [(ax, .inr (5, [.int vxn, .ref axr, .ref axb, .ref axj, .int vxk, .ref axi, .ref axu, .long vxA, .long vxB, .long vxC, .long vxE])), (axb, .inl (cy, 8, .inl fxb))] sz)) 0 0 (va_A [(ax, .inr (5, [.int vxn, .ref axr, .ref axb, .ref axj, .int vxk, .ref axi, .ref axu, .long vxA, .long vxB, .long vxC, .long vxE])), (axb, .inl (cy, 8, .inl fxb))] sz) := by
  refine Met.ofW (cc := cX5_countTable) (maxL := 3) (ret := none) (by decide) rfl ?_
  intro p e s m args below meth c s₁ B hml hv
  obtain ⟨rfl, hsz, hP, hK, hD0, hN⟩ := hv
  have hx := B.exec
  have hb := B.bytes
  have hr := B.returns
  have hts := atoms_spec (ws := wsX5_countTable) B.pre
  have hown : s.vm.findClass RX5 = some m.cls := findClass_of_methodNamed B.named
  have hlocks := B.notSynchronized
  subst hsz
  have hD := hD0.self (sz := s.heap.size)
  clear hD0
  generalize hAe : va_A [(ax, .inr (5, [.int vxn, .ref axr, .ref axb, .ref axj, .int vxk, .ref axi, .ref axu, .long vxA, .long vxB, .long vxC, .long vxE])), (axb, .inl (cy, 8, .inl fxb))] s.heap.size = A at hD ⊢
  have hA : ∀ q : Nat, s.heap.size ≤ q → A q := fun q h => by rw [← hAe]; exact Or.inr h
  have hS : va_S A s.heap s.heap [] := va_S.rf
  have hl := lv_entry ([.ref ax]) (n := 3) (Nat.le_of_ble_eq_true rfl)
  rw [lg_entry_eq]
  generalize (lg_sl ([.ref ax]) ++ List.replicate (3 - (lg_sl ([.ref ax])).length) Slot.unset).toArray = ls at hl ⊢
  replace hl : lv_has ls 3 [(0, .ref ax)] := hl
  replace hP : va_P (dC, dI) vwCl [(ax, .inr (5, [.int vxn, .ref axr, .ref axb, .ref axj, .int vxk, .ref axi, .ref axu, .long vxA, .long vxB, .long vxC, .long vxE])), (axb, .inl (cy, 8, .inl fxb))] s.heap := hP
  obtain ⟨locs, hlocs⟩ : ∃ lc : List Loc, lc = [] := ⟨_, rfl⟩
  rw [← hlocs] at hS ⊢
  obtain ⟨H, hH⟩ : ∃ H : Heap, H = s.heap := ⟨_, rfl⟩
  have hP2 := hP; rw [← hH] at hP2
  have hS2 : va_S A s.heap H locs := by rw [hH]; exact hS
  suffices hgo : W p l e (headSpec wsX5_countTable ({ frames := 1, cells := 0, slots := 0, locals := 22 })).room s m (([.ref ax] : List Value).toArray) below meth c H locs 0 0 (MQ below (va_Qv (fun (_ : Unit) => True) (QW (dC, dI) cy A [(ax, .inr (5, [.int vxn, .ref axr, .ref axb, .ref axj, .int vxk, .ref axi, .ref axu, .long res.1, .long res.2, .long vxC, .long vxE])), (axb, .inl (cy, 8, .inl fxb))]) A) (([.ref ax] : List Value).toArray) s 0 0 A) (F0 m 0 ls []) by rw [hH] at hgo; exact hgo
  replace hP := hP2
  replace hS := hS2
  clear hP2 hS2
  have hin_X5 : ∀ w ∈ wsX50, w ∈ wsX5_countTable := by decide +kernel
  have hf_17 := hts (.fieldLink RX5 17 "FewLooksModel" "table" "[I") (by decide +kernel)
  have hf_107 := hts (.fieldLink RX5 107 "FewLooksModel" "above" "J") (by decide +kernel)
  have hf_111 := hts (.fieldLink RX5 111 "FewLooksModel" "below" "J") (by decide +kernel)
  unfold fX5_countTable at h
  refine lv_aload_n hx hb dX5_countTable_0 rfl (lv_at hl 0 rfl) ?_
  refine lv_lconst (v := (0 : Int64)) hx hb dX5_countTable_1 (by decide) ?_
  refine va_put (D := (dC, dI)) (ci := 5) (v := .long (0 : Int64)) (ty := .long) (C := RX5) (T := TX5) (N := 11) hx hb hts hin_X5 tyX5 tyX5_ok nmX5 hown hK hP hD hS 0 rfl rfl 7 (by decide) (hf_107) (fun _ h9 => h9) rfl (by decide +kernel) rfl rfl (Nat.le_of_ble_eq_true rfl) dX5_countTable_2 (fun H locs hP hD hS => ?_)
  replace hP : va_P (dC, dI) vwCl [(ax, .inr (5, [.int vxn, .ref axr, .ref axb, .ref axj, .int vxk, .ref axi, .ref axu, .long (0 : Int64), .long vxB, .long vxC, .long vxE])), (axb, .inl (cy, 8, .inl fxb))] H := hP
  replace hD : va_D A [(ax, .inr (5, [.int vxn, .ref axr, .ref axb, .ref axj, .int vxk, .ref axi, .ref axu, .long (0 : Int64), .long vxB, .long vxC, .long vxE])), (axb, .inl (cy, 8, .inl fxb))] := hD
  refine lv_aload_n hx hb dX5_countTable_5 rfl (lv_at hl 0 rfl) ?_
  refine lv_ldc2 (v := (64 : Int64)) hx hb hown (hts (.constantLong RX5 114 (64)) (by decide +kernel)) dX5_countTable_6 ?_
  refine va_put (D := (dC, dI)) (ci := 5) (v := .long (64 : Int64)) (ty := .long) (C := RX5) (T := TX5) (N := 11) hx hb hts hin_X5 tyX5 tyX5_ok nmX5 hown hK hP hD hS 0 rfl rfl 8 (by decide) (hf_111) (fun _ h9 => h9) rfl (by decide +kernel) rfl rfl (Nat.le_of_ble_eq_true rfl) dX5_countTable_9 (fun H locs hP hD hS => ?_)
  replace hP : va_P (dC, dI) vwCl [(ax, .inr (5, [.int vxn, .ref axr, .ref axb, .ref axj, .int vxk, .ref axi, .ref axu, .long (0 : Int64), .long (64 : Int64), .long vxC, .long vxE])), (axb, .inl (cy, 8, .inl fxb))] H := hP
  replace hD : va_D A [(ax, .inr (5, [.int vxn, .ref axr, .ref axb, .ref axj, .int vxk, .ref axi, .ref axu, .long (0 : Int64), .long (64 : Int64), .long vxC, .long vxE])), (axb, .inl (cy, 8, .inl fxb))] := hD
  refine lv_iconst (v := (0 : Int32)) hx hb dX5_countTable_12 (by decide) ?_
  refine lv_istore_n (lv' := [(1, .int (0 : Int32)), (0, .ref ax)]) hx hb dX5_countTable_13 rfl hl (by decide) rfl (fun ls hl => ?_)
  have L14_6 : ∀ (n : Nat) (l1 : Int32) (vxA : Int64) (vxB : Int64) (rs : (Int32 × Int64)) (H : Heap) (locs : List Loc) (ls : Array Slot), fX5_countTable_L14 n l1 vxA fxb = some rs → lv_has ls 3 [(0, .ref ax), (1, .int l1)] → va_P (dC, dI) vwCl [(ax, .inr (5, [.int vxn, .ref axr, .ref axb, .ref axj, .int vxk, .ref axi, .ref axu, .long vxA, .long vxB, .long vxC, .long vxE])), (axb, .inl (cy, 8, .inl fxb))] H → va_D A [(ax, .inr (5, [.int vxn, .ref axr, .ref axb, .ref axj, .int vxk, .ref axi, .ref axu, .long vxA, .long vxB, .long vxC, .long vxE])), (axb, .inl (cy, 8, .inl fxb))] → va_S A s.heap H locs → (∀ (H : Heap) (locs : List Loc) (ls : Array Slot), lv_has ls 3 [(0, .ref ax), (1, .int rs.1)] → va_P (dC, dI) vwCl [(ax, .inr (5, [.int vxn, .ref axr, .ref axb, .ref axj, .int vxk, .ref axi, .ref axu, .long rs.2, .long vxB, .long vxC, .long vxE])), (axb, .inl (cy, 8, .inl fxb))] H → va_D A [(ax, .inr (5, [.int vxn, .ref axr, .ref axb, .ref axj, .int vxk, .ref axi, .ref axu, .long rs.2, .long vxB, .long vxC, .long vxE])), (axb, .inl (cy, 8, .inl fxb))] → va_S A s.heap H locs → W p l e (headSpec wsX5_countTable ({ frames := 1, cells := 0, slots := 0, locals := 22 })).room s m (([.ref ax] : List Value).toArray) below meth c H locs 0 0 (MQ below (va_Qv (fun (_ : Unit) => True) (QW (dC, dI) cy A [(ax, .inr (5, [.int vxn, .ref axr, .ref axb, .ref axj, .int vxk, .ref axi, .ref axu, .long res.1, .long res.2, .long vxC, .long vxE])), (axb, .inl (cy, 8, .inl fxb))]) A) (([.ref ax] : List Value).toArray) s 0 0 A) (F0 m 80 ls [])) → W p l e (headSpec wsX5_countTable ({ frames := 1, cells := 0, slots := 0, locals := 22 })).room s m (([.ref ax] : List Value).toArray) below meth c H locs 0 0 (MQ below (va_Qv (fun (_ : Unit) => True) (QW (dC, dI) cy A [(ax, .inr (5, [.int vxn, .ref axr, .ref axb, .ref axj, .int vxk, .ref axi, .ref axu, .long res.1, .long res.2, .long vxC, .long vxE])), (axb, .inl (cy, 8, .inl fxb))]) A) (([.ref ax] : List Value).toArray) s 0 0 A) (F0 m 14 ls []) := by
    intro n
    induction n with
    | zero =>
      intro l1 vxA vxB rs H locs ls h
      rw [fX5_countTable_L14_0] at h
      cases h
    | succ n ih =>
      intro l1 vxA vxB rs H locs ls h hl hP hD hS K
      rw [fX5_countTable_L14_s] at h
      refine lv_iload_n hx hb dX5_countTable_14 rfl (lv_at hl 1 rfl) ?_
      refine lv_bipush (v := (8 : Int32)) hx hb dX5_countTable_15 (by decide) ?_
      refine lv_icmp_ge (tgt := 80) hx hb dX5_countTable_17 (by decide) (fun c6 => ?_) (fun c6 => ?_)
      · rw [if_pos c6] at h
        have h0 := Option.some.inj h
        subst h0
        exact K H locs ls (lv_sub hl [0, 1] rfl) hP hD hS
      · rw [if_neg c6] at h
        refine lv_iconst (v := (0 : Int32)) hx hb dX5_countTable_20 (by decide) ?_
        refine lv_istore_n (lv' := [(2, .int (0 : Int32)), (0, .ref ax), (1, .int l1)]) hx hb dX5_countTable_21 rfl hl (by decide) rfl (fun ls hl => ?_)
        have L22_3 : ∀ (n : Nat) (l1 : Int32) (l2 : Int32) (vxA : Int64) (vxB : Int64) (rs : (Int32 × Int64)) (H : Heap) (locs : List Loc) (ls : Array Slot), fX5_countTable_L22 n l1 l2 vxA fxb = some rs → lv_has ls 3 [(0, .ref ax), (1, .int l1), (2, .int l2)] → va_P (dC, dI) vwCl [(ax, .inr (5, [.int vxn, .ref axr, .ref axb, .ref axj, .int vxk, .ref axi, .ref axu, .long vxA, .long vxB, .long vxC, .long vxE])), (axb, .inl (cy, 8, .inl fxb))] H → va_D A [(ax, .inr (5, [.int vxn, .ref axr, .ref axb, .ref axj, .int vxk, .ref axi, .ref axu, .long vxA, .long vxB, .long vxC, .long vxE])), (axb, .inl (cy, 8, .inl fxb))] → va_S A s.heap H locs → (∀ (H : Heap) (locs : List Loc) (ls : Array Slot), lv_has ls 3 [(0, .ref ax), (1, .int l1), (2, .int rs.1)] → va_P (dC, dI) vwCl [(ax, .inr (5, [.int vxn, .ref axr, .ref axb, .ref axj, .int vxk, .ref axi, .ref axu, .long rs.2, .long vxB, .long vxC, .long vxE])), (axb, .inl (cy, 8, .inl fxb))] H → va_D A [(ax, .inr (5, [.int vxn, .ref axr, .ref axb, .ref axj, .int vxk, .ref axi, .ref axu, .long rs.2, .long vxB, .long vxC, .long vxE])), (axb, .inl (cy, 8, .inl fxb))] → va_S A s.heap H locs → W p l e (headSpec wsX5_countTable ({ frames := 1, cells := 0, slots := 0, locals := 22 })).room s m (([.ref ax] : List Value).toArray) below meth c H locs 0 0 (MQ below (va_Qv (fun (_ : Unit) => True) (QW (dC, dI) cy A [(ax, .inr (5, [.int vxn, .ref axr, .ref axb, .ref axj, .int vxk, .ref axi, .ref axu, .long res.1, .long res.2, .long vxC, .long vxE])), (axb, .inl (cy, 8, .inl fxb))]) A) (([.ref ax] : List Value).toArray) s 0 0 A) (F0 m 74 ls [])) → W p l e (headSpec wsX5_countTable ({ frames := 1, cells := 0, slots := 0, locals := 22 })).room s m (([.ref ax] : List Value).toArray) below meth c H locs 0 0 (MQ below (va_Qv (fun (_ : Unit) => True) (QW (dC, dI) cy A [(ax, .inr (5, [.int vxn, .ref axr, .ref axb, .ref axj, .int vxk, .ref axi, .ref axu, .long res.1, .long res.2, .long vxC, .long vxE])), (axb, .inl (cy, 8, .inl fxb))]) A) (([.ref ax] : List Value).toArray) s 0 0 A) (F0 m 22 ls []) := by
          intro n
          induction n with
          | zero =>
            intro l1 l2 vxA vxB rs H locs ls h
            rw [fX5_countTable_L22_0] at h
            cases h
          | succ n ih =>
            intro l1 l2 vxA vxB rs H locs ls h hl hP hD hS K
            rw [fX5_countTable_L22_s] at h
            refine lv_iload_n hx hb dX5_countTable_22 rfl (lv_at hl 2 rfl) ?_
            refine lv_bipush (v := (8 : Int32)) hx hb dX5_countTable_23 (by decide) ?_
            refine lv_icmp_ge (tgt := 74) hx hb dX5_countTable_25 (by decide) (fun c3 => ?_) (fun c3 => ?_)
            · rw [if_pos c3] at h
              have h0 := Option.some.inj h
              subst h0
              exact K H locs ls (lv_sub hl [0, 1, 2] rfl) hP hD hS
            · rw [if_neg c3] at h
              refine lv_aload_n hx hb dX5_countTable_28 rfl (lv_at hl 0 rfl) ?_
              refine lv_dup hx hb dX5_countTable_29 rfl ?_
              refine va_get (D := (dC, dI)) (ci := 5) (v := .long vxA) (C := RX5) (T := TX5) (N := 11) hx hb hts hin_X5 hown hK hP 0 rfl rfl 7 (by decide) (hf_107) (fun _ h9 => h9) rfl dX5_countTable_30 ?_
              refine lv_aload_n hx hb dX5_countTable_33 rfl (lv_at hl 0 rfl) ?_
              refine va_get (D := (dC, dI)) (ci := 5) (v := .ref axb) (C := RX5) (T := TX5) (N := 11) hx hb hts hin_X5 hown hK hP 0 rfl rfl 2 (by decide) (hf_17) (fun _ h9 => h9) rfl dX5_countTable_34 ?_
              refine lv_iload_n hx hb dX5_countTable_37 rfl (lv_at hl 1 rfl) ?_
              obtain ⟨hi, h⟩ := gin_some h
              refine va_iald hx hb hK hP 1 0 rfl rfl hi dX5_countTable_38 ?_
              refine lv_aload_n hx hb dX5_countTable_39 rfl (lv_at hl 0 rfl) ?_
              refine va_get (D := (dC, dI)) (ci := 5) (v := .ref axb) (C := RX5) (T := TX5) (N := 11) hx hb hts hin_X5 hown hK hP 0 rfl rfl 2 (by decide) (hf_17) (fun _ h9 => h9) rfl dX5_countTable_40 ?_
              refine lv_iload_n hx hb dX5_countTable_43 rfl (lv_at hl 2 rfl) ?_
              obtain ⟨hi, h⟩ := gin_some h
              refine va_iald hx hb hK hP 1 0 rfl rfl hi dX5_countTable_44 ?_
              refine lv_aload_n hx hb dX5_countTable_45 rfl (lv_at hl 0 rfl) ?_
              refine va_get (D := (dC, dI)) (ci := 5) (v := .ref axb) (C := RX5) (T := TX5) (N := 11) hx hb hts hin_X5 hown hK hP 0 rfl rfl 2 (by decide) (hf_17) (fun _ h9 => h9) rfl dX5_countTable_46 ?_
              refine lv_iload_n hx hb dX5_countTable_49 rfl (lv_at hl 1 rfl) ?_
              refine lv_iload_n hx hb dX5_countTable_50 rfl (lv_at hl 2 rfl) ?_
              refine lv_ixor hx hb dX5_countTable_51 ?_
              obtain ⟨hi, h⟩ := gin_some h
              refine va_iald hx hb hK hP 1 0 rfl rfl hi dX5_countTable_52 ?_
              obtain ⟨r1, hr1, h⟩ := bd_some h
              have hFc := va_free (wc := []) hD hS hA [] rfl
              refine va_calli (va_runS (As := [.int (fxb l1.toNatClampNeg), .int (fxb l2.toNatClampNeg), .int (fxb (l1 ^^^ l2).toNatClampNeg)]) (rest := [.long vxA, .ref ax]) ⟨hx, hb, hml, hown, hts⟩ (c_X5_passesTable l dC dI cy  H.size  (fxb l1.toNatClampNeg) (fxb l2.toNatClampNeg) (fxb (l1 ^^^ l2).toNatClampNeg) r1 hr1) (va_cwS 3 hts gX5_countTable_X5_passesTable rfl rfl rfl (by decide +kernel) ⟨Nat.le_of_ble_eq_true rfl, Nat.le_of_ble_eq_true rfl⟩) ⟨PW_fb, PW_pre (hP.sub (ws' := []) [] rfl) hK (hD.sub [] (by decide) rfl) hN⟩ rfl rfl hl.1 rfl (lv_room (Nat.le_of_ble_eq_true rfl)) dX5_countTable_53 ⟨Nat.zero_le _, Nat.zero_le _⟩) hS (fun q _ h => hFc q h) hFc (fun rz u t H locs ht hvm hw hB hz1 hk1 hS => ?_)
              obtain ⟨hP, hD⟩ := jn (wr := [(ax, .inr (5, [.int vxn, .ref axr, .ref axb, .ref axj, .int vxk, .ref axi, .ref axu, .long vxA, .long vxB, .long vxC, .long vxE])), (axb, .inl (cy, 8, .inl fxb))]) (w1 := []) (ws' := [(ax, .inr (5, [.int vxn, .ref axr, .ref axb, .ref axj, .int vxk, .ref axi, .ref axu, .long vxA, .long vxB, .long vxC, .long vxE])), (axb, .inl (cy, 8, .inl fxb))]) hP hD [] [0, 1] rfl rfl (by decide) (by decide) hk1 hFc hB ht [0, 1] rfl (by decide) rfl
              obtain ⟨hw, br1⟩ := hw
              replace hw := hw.symm
              subst hw
              clear hFc hB hk1 hz1 hvm
              refine lv_if_eq (tgt := 63) hx hb dX5_countTable_56 (by decide) (fun c2 => ?_) (fun c2 => ?_)
              · rw [if_pos c2] at h
                refine lv_lconst (v := (0 : Int64)) hx hb dX5_countTable_63 (by decide) ?_
                refine lv_ladd hx hb dX5_countTable_64 ?_
                refine va_put (D := (dC, dI)) (ci := 5) (v := .long (vxA + (0 : Int64))) (ty := .long) (C := RX5) (T := TX5) (N := 11) hx hb hts hin_X5 tyX5 tyX5_ok nmX5 hown hK hP hD hS 0 rfl rfl 7 (by decide) (hf_107) (fun _ h9 => h9) rfl (by decide +kernel) rfl rfl (Nat.le_of_ble_eq_true rfl) dX5_countTable_65 (fun H locs hP hD hS => ?_)
                replace hP : va_P (dC, dI) vwCl [(ax, .inr (5, [.int vxn, .ref axr, .ref axb, .ref axj, .int vxk, .ref axi, .ref axu, .long (vxA + (0 : Int64)), .long vxB, .long vxC, .long vxE])), (axb, .inl (cy, 8, .inl fxb))] H := hP
                replace hD : va_D A [(ax, .inr (5, [.int vxn, .ref axr, .ref axb, .ref axj, .int vxk, .ref axi, .ref axu, .long (vxA + (0 : Int64)), .long vxB, .long vxC, .long vxE])), (axb, .inl (cy, 8, .inl fxb))] := hD
                refine lv_iinc (v := l2 + (1 : Int32)) (lv' := [(2, .int (l2 + (1 : Int32))), (0, .ref ax), (1, .int l1)]) hx hb dX5_countTable_68 hl (k := 2) rfl rfl (by decide) rfl (fun ls hl => ?_)
                refine lv_goto (tgt := 22) hx hb dX5_countTable_71 (by decide) ?_
                exact ih l1 (l2 + (1 : Int32)) (vxA + (0 : Int64)) vxB rs H locs ls h (lv_sub hl [1, 2, 0] rfl) hP hD hS K
              · rw [if_neg c2] at h
                refine lv_lconst (v := (1 : Int64)) hx hb dX5_countTable_59 (by decide) ?_
                refine lv_goto (tgt := 64) hx hb dX5_countTable_60 (by decide) ?_
                refine lv_ladd hx hb dX5_countTable_64 ?_
                refine va_put (D := (dC, dI)) (ci := 5) (v := .long (vxA + (1 : Int64))) (ty := .long) (C := RX5) (T := TX5) (N := 11) hx hb hts hin_X5 tyX5 tyX5_ok nmX5 hown hK hP hD hS 0 rfl rfl 7 (by decide) (hf_107) (fun _ h9 => h9) rfl (by decide +kernel) rfl rfl (Nat.le_of_ble_eq_true rfl) dX5_countTable_65 (fun H locs hP hD hS => ?_)
                replace hP : va_P (dC, dI) vwCl [(ax, .inr (5, [.int vxn, .ref axr, .ref axb, .ref axj, .int vxk, .ref axi, .ref axu, .long (vxA + (1 : Int64)), .long vxB, .long vxC, .long vxE])), (axb, .inl (cy, 8, .inl fxb))] H := hP
                replace hD : va_D A [(ax, .inr (5, [.int vxn, .ref axr, .ref axb, .ref axj, .int vxk, .ref axi, .ref axu, .long (vxA + (1 : Int64)), .long vxB, .long vxC, .long vxE])), (axb, .inl (cy, 8, .inl fxb))] := hD
                refine lv_iinc (v := l2 + (1 : Int32)) (lv' := [(2, .int (l2 + (1 : Int32))), (0, .ref ax), (1, .int l1)]) hx hb dX5_countTable_68 hl (k := 2) rfl rfl (by decide) rfl (fun ls hl => ?_)
                refine lv_goto (tgt := 22) hx hb dX5_countTable_71 (by decide) ?_
                exact ih l1 (l2 + (1 : Int32)) (vxA + (1 : Int64)) vxB rs H locs ls h (lv_sub hl [1, 2, 0] rfl) hP hD hS K
        obtain ⟨q5, hq5, h⟩ := bd_some h
        refine L22_3 FU l1 (0 : Int32) vxA vxB q5 H locs ls hq5 (lv_sub hl [1, 2, 0] rfl) hP hD hS (fun H locs ls hl hP hD hS => ?_)
        refine lv_iinc (v := l1 + (1 : Int32)) (lv' := [(1, .int (l1 + (1 : Int32))), (0, .ref ax), (2, .int q5.1)]) hx hb dX5_countTable_74 hl (k := 1) rfl rfl (by decide) rfl (fun ls hl => ?_)
        refine lv_goto (tgt := 14) hx hb dX5_countTable_77 (by decide) ?_
        exact ih (l1 + (1 : Int32)) q5.2 vxB rs H locs ls h (lv_sub hl [1, 0] rfl) hP hD hS K
  obtain ⟨q8, hq8, h⟩ := bd_some h
  refine L14_6 FU (0 : Int32) (0 : Int64) (64 : Int64) q8 H locs ls hq8 (lv_sub hl [1, 0] rfl) hP hD hS (fun H locs ls hl hP hD hS => ?_)
  have h0 := Option.some.inj h
  subst h0
  exact W.vret hx hb hr (fun t ht hW => ⟨⟨(), rfl, trivial, QW_mk hP hK hD ht hW⟩, hS.F ht⟩) hS.2.2 dX5_countTable_80

noncomputable def fX5_passesNet (fxj : Nat → Int32) (p0 : Int32) : Option (Int32) := bd (fX5_nearestNet fxj p0) fun r1 => bd (fX5_netFar fxj r1 p0) fun r2 => if r2 = 0 then (some (1 : Int32)) else (some (0 : Int32))
set_option maxHeartbeats 4000000 in
set_option maxRecDepth 100000 in
theorem c_X5_passesNet (l : Launch) (dC : Nat → ClassId) (dI : Nat → Nat → Nat) (cy : ClassId) (ax axr axb axj axi axu : Nat) (sz : Nat) (vxn : Int32) (vxk : Int32) (vxA : Int64) (vxB : Int64) (vxC : Int64) (vxE : Int64) (fxj : Nat → Int32) (p0 : Int32) (res : Int32) (h : fX5_passesNet fxj p0 = some res) : Met l yX5_passesNet wsX5_passesNet ({ frames := 2, cells := 0, slots := 0, locals := 49 }) (va_Pc [.ref ax, .int p0] (PW (dC, dI) cy sz [(ax, .inr (5, [.int vxn, .ref axr, .ref axb, .ref axj, .int vxk, .ref axi, .ref axu, .long vxA, .long vxB, .long vxC, .long vxE])), (axj, .inl (cy, 6, .inl fxj))])) (va_Qi (fun (r : Int32) (_ : Unit) => r = res ∧ bo r) (QW (dC, dI) cy (va_A [(ax, .inr (5, [.int vxn, .ref axr, .ref axb, .ref axj, .int vxk, .ref axi, .ref axu, .long vxA, .long vxB, .long vxC, .long vxE])), (axj, .inl (cy, 6, .inl fxj))] sz) [(ax, .inr (5, [.int vxn, .ref axr, .ref axb, .ref axj, .int vxk, .ref axi, .ref axu, .long vxA, .long vxB, .long vxC, .long vxE])), (axj, .inl (cy, 6, .inl fxj))]) (va_A [(ax, .inr (5, [.int vxn, .ref axr, .ref axb, .ref axj, .int vxk, .ref axi, .ref axu, .long vxA, .long vxB, .long vxC, .long vxE])), (axj, .inl (cy, 6, .inl fxj))] sz)) 0 0 (va_A [(ax, .inr (5, [.int vxn, .ref axr, .ref axb, .ref axj, .int vxk, .ref axi, .ref axu, .long vxA, .long vxB, .long vxC, .long vxE])), (axj, .inl (cy, 6, .inl fxj))] sz) := by
  refine Met.ofW (cc := cX5_passesNet) (maxL := 2) (ret := (some .boolean)) (by decide) rfl ?_
  intro p e s m args below meth c s₁ B hml hv
  obtain ⟨rfl, hsz, hP, hK, hD0, hN⟩ := hv
  have hx := B.exec
  have hb := B.bytes
  have hr := B.returns
  have hts := atoms_spec (ws := wsX5_passesNet) B.pre
  have hown : s.vm.findClass RX5 = some m.cls := findClass_of_methodNamed B.named
  have hlocks := B.notSynchronized
  subst hsz
  have hD := hD0.self (sz := s.heap.size)
  clear hD0
  generalize hAe : va_A [(ax, .inr (5, [.int vxn, .ref axr, .ref axb, .ref axj, .int vxk, .ref axi, .ref axu, .long vxA, .long vxB, .long vxC, .long vxE])), (axj, .inl (cy, 6, .inl fxj))] s.heap.size = A at hD ⊢
  have hA : ∀ q : Nat, s.heap.size ≤ q → A q := fun q h => by rw [← hAe]; exact Or.inr h
  have hS : va_S A s.heap s.heap [] := va_S.rf
  have hl := lv_entry ([.ref ax, .int p0]) (n := 2) (Nat.le_of_ble_eq_true rfl)
  rw [lg_entry_eq]
  generalize (lg_sl ([.ref ax, .int p0]) ++ List.replicate (2 - (lg_sl ([.ref ax, .int p0])).length) Slot.unset).toArray = ls at hl ⊢
  replace hl : lv_has ls 2 [(0, .ref ax), (1, .int p0)] := hl
  replace hP : va_P (dC, dI) vwCl [(ax, .inr (5, [.int vxn, .ref axr, .ref axb, .ref axj, .int vxk, .ref axi, .ref axu, .long vxA, .long vxB, .long vxC, .long vxE])), (axj, .inl (cy, 6, .inl fxj))] s.heap := hP
  obtain ⟨locs, hlocs⟩ : ∃ lc : List Loc, lc = [] := ⟨_, rfl⟩
  rw [← hlocs] at hS ⊢
  obtain ⟨H, hH⟩ : ∃ H : Heap, H = s.heap := ⟨_, rfl⟩
  have hP2 := hP; rw [← hH] at hP2
  have hS2 : va_S A s.heap H locs := by rw [hH]; exact hS
  suffices hgo : W p l e (headSpec wsX5_passesNet ({ frames := 2, cells := 0, slots := 0, locals := 49 })).room s m (([.ref ax, .int p0] : List Value).toArray) below meth c H locs 0 0 (MQ below (va_Qi (fun (r : Int32) (_ : Unit) => r = res ∧ bo r) (QW (dC, dI) cy A [(ax, .inr (5, [.int vxn, .ref axr, .ref axb, .ref axj, .int vxk, .ref axi, .ref axu, .long vxA, .long vxB, .long vxC, .long vxE])), (axj, .inl (cy, 6, .inl fxj))]) A) (([.ref ax, .int p0] : List Value).toArray) s 0 0 A) (F0 m 0 ls []) by rw [hH] at hgo; exact hgo
  replace hP := hP2
  replace hS := hS2
  clear hP2 hS2
  unfold fX5_passesNet at h
  refine lv_aload_n hx hb dX5_passesNet_0 rfl (lv_at hl 0 rfl) ?_
  refine lv_aload_n hx hb dX5_passesNet_1 rfl (lv_at hl 0 rfl) ?_
  refine lv_iload_n hx hb dX5_passesNet_2 rfl (lv_at hl 1 rfl) ?_
  obtain ⟨r1, hr1, h⟩ := bd_some h
  have hFc := va_free (wc := [(ax, .inr (5, [.int vxn, .ref axr, .ref axb, .ref axj, .int vxk, .ref axi, .ref axu, .long vxA, .long vxB, .long vxC, .long vxE])), (axj, .inl (cy, 6, .inl fxj))]) hD hS hA [0, 1] rfl
  refine va_calli (va_runV (As := [.int p0]) (rest := [.ref ax]) ⟨hx, hb, hml, hown, hts⟩ (c_X5_nearestNet l dC dI cy ax axr axb axj axi axu H.size vxn vxk vxA vxB vxC vxE fxj p0 r1 hr1) (cwV 1 hts gX5_passesNet_X5_nearestNet rfl rfl rfl (by decide +kernel) ⟨Nat.le_of_ble_eq_true rfl, Nat.le_of_ble_eq_true rfl⟩) ⟨PW_fb, va_recv hK hP (ci := 5) (q0 := 0) rfl rfl, PW_pre (hP.sub (ws' := [(ax, .inr (5, [.int vxn, .ref axr, .ref axb, .ref axj, .int vxk, .ref axi, .ref axu, .long vxA, .long vxB, .long vxC, .long vxE])), (axj, .inl (cy, 6, .inl fxj))]) [0, 1] rfl) hK (hD.sub [0, 1] (by decide) rfl) hN⟩ rfl rfl hl.1 rfl (lv_room (Nat.le_of_ble_eq_true rfl)) dX5_passesNet_3 ⟨Nat.zero_le _, Nat.zero_le _⟩) hS (fun q _ h => hFc q h) hFc (fun rz u t H locs ht hvm hw hB hz1 hk1 hS => ?_)
  obtain ⟨hP, hD⟩ := jn (wr := []) (w1 := [(ax, .inr (5, [.int vxn, .ref axr, .ref axb, .ref axj, .int vxk, .ref axi, .ref axu, .long vxA, .long vxB, .long vxC, .long vxE])), (axj, .inl (cy, 6, .inl fxj))]) (ws' := [(ax, .inr (5, [.int vxn, .ref axr, .ref axb, .ref axj, .int vxk, .ref axi, .ref axu, .long vxA, .long vxB, .long vxC, .long vxE])), (axj, .inl (cy, 6, .inl fxj))]) hP hD [0, 1] [] rfl rfl (by decide) (by decide) hk1 hFc hB ht [0, 1] rfl (by decide) rfl
  replace hw := hw.symm
  subst hw
  clear hFc hB hk1 hz1 hvm
  refine lv_iload_n hx hb dX5_passesNet_6 rfl (lv_at hl 1 rfl) ?_
  obtain ⟨r2, hr2, h⟩ := bd_some h
  have hFc := va_free (wc := [(ax, .inr (5, [.int vxn, .ref axr, .ref axb, .ref axj, .int vxk, .ref axi, .ref axu, .long vxA, .long vxB, .long vxC, .long vxE])), (axj, .inl (cy, 6, .inl fxj))]) hD hS hA [0, 1] rfl
  refine va_calli (va_runV (As := [.int r1, .int p0]) (rest := []) ⟨hx, hb, hml, hown, hts⟩ (c_X5_netFar l dC dI cy ax axr axb axj axi axu H.size vxn vxk vxA vxB vxC vxE fxj r1 p0 r2 hr2) (cwV 2 hts gX5_passesNet_X5_netFar rfl rfl rfl (by decide +kernel) ⟨Nat.le_of_ble_eq_true rfl, Nat.le_of_ble_eq_true rfl⟩) ⟨PW_fb, va_recv hK hP (ci := 5) (q0 := 0) rfl rfl, PW_pre (hP.sub (ws' := [(ax, .inr (5, [.int vxn, .ref axr, .ref axb, .ref axj, .int vxk, .ref axi, .ref axu, .long vxA, .long vxB, .long vxC, .long vxE])), (axj, .inl (cy, 6, .inl fxj))]) [0, 1] rfl) hK (hD.sub [0, 1] (by decide) rfl) hN⟩ rfl rfl hl.1 rfl (lv_room (Nat.le_of_ble_eq_true rfl)) dX5_passesNet_7 ⟨Nat.zero_le _, Nat.zero_le _⟩) hS (fun q _ h => hFc q h) hFc (fun rz u t H locs ht hvm hw hB hz1 hk1 hS => ?_)
  obtain ⟨hP, hD⟩ := jn (wr := []) (w1 := [(ax, .inr (5, [.int vxn, .ref axr, .ref axb, .ref axj, .int vxk, .ref axi, .ref axu, .long vxA, .long vxB, .long vxC, .long vxE])), (axj, .inl (cy, 6, .inl fxj))]) (ws' := [(ax, .inr (5, [.int vxn, .ref axr, .ref axb, .ref axj, .int vxk, .ref axi, .ref axu, .long vxA, .long vxB, .long vxC, .long vxE])), (axj, .inl (cy, 6, .inl fxj))]) hP hD [0, 1] [] rfl rfl (by decide) (by decide) hk1 hFc hB ht [0, 1] rfl (by decide) rfl
  replace hw := hw.symm
  subst hw
  clear hFc hB hk1 hz1 hvm
  refine lv_if_ne (tgt := 17) hx hb dX5_passesNet_10 (by decide) (fun c3 => ?_) (fun c3 => ?_)
  · rw [if_neg c3] at h
    refine lv_iconst (v := (0 : Int32)) hx hb dX5_passesNet_17 (by decide) ?_
    have h0 := Option.some.inj h
    subst h0
    exact W.zret (ty := .boolean) hx hb hr bo_0 (fun t ht hW => ⟨⟨_, (), rfl, ⟨rfl, bo_0⟩, QW_mk hP hK hD ht hW⟩, hS.F ht⟩) hS.2.2 dX5_passesNet_18
  · rw [if_pos c3] at h
    refine lv_iconst (v := (1 : Int32)) hx hb dX5_passesNet_13 (by decide) ?_
    refine lv_goto (tgt := 18) hx hb dX5_passesNet_14 (by decide) ?_
    have h0 := Option.some.inj h
    subst h0
    exact W.zret (ty := .boolean) hx hb hr bo_1 (fun t ht hW => ⟨⟨_, (), rfl, ⟨rfl, bo_1⟩, QW_mk hP hK hD ht hW⟩, hS.F ht⟩) hS.2.2 dX5_passesNet_18

noncomputable def fX5_countNet_L12 (n : Nat) (l1 : Int32) (vxk : Int32) (vxA : Int64) (vxB : Int64) (fxj : Nat → Int32) : Option (Int32 × Int64 × Int64) := match n with
  | 0 => none
  | n + 1 => if (64 : Int32) ≤ l1 then (some (l1, vxA, vxB)) else (bd (fX5_ones l1) fun r1 => if r1 = vxk then (bd (fX5_passesNet fxj l1) fun r2 => bd (if r2 = 0 then (some (0 : Int64)) else (some (1 : Int64))) fun q3 => fX5_countNet_L12 n (l1 + (1 : Int32)) vxk (vxA + q3) (vxB + (1 : Int64)) fxj) else (fX5_countNet_L12 n (l1 + (1 : Int32)) vxk vxA vxB fxj))
theorem fX5_countNet_L12_0 (l1 : Int32) (vxk : Int32) (vxA : Int64) (vxB : Int64) (fxj : Nat → Int32) : fX5_countNet_L12 0 l1 vxk vxA vxB fxj = none := rfl
theorem fX5_countNet_L12_s (n : Nat) (l1 : Int32) (vxk : Int32) (vxA : Int64) (vxB : Int64) (fxj : Nat → Int32) : fX5_countNet_L12 (n + 1) l1 vxk vxA vxB fxj = if (64 : Int32) ≤ l1 then (some (l1, vxA, vxB)) else (bd (fX5_ones l1) fun r1 => if r1 = vxk then (bd (fX5_passesNet fxj l1) fun r2 => bd (if r2 = 0 then (some (0 : Int64)) else (some (1 : Int64))) fun q3 => fX5_countNet_L12 n (l1 + (1 : Int32)) vxk (vxA + q3) (vxB + (1 : Int64)) fxj) else (fX5_countNet_L12 n (l1 + (1 : Int32)) vxk vxA vxB fxj)) := rfl
noncomputable def fX5_countNet (vxk : Int32) (vxA : Int64) (vxB : Int64) (fxj : Nat → Int32)  : Option (Int64 × Int64) := bd (fX5_countNet_L12 FU (0 : Int32) vxk (0 : Int64) (0 : Int64) fxj) fun q8 => some (q8.2.1, q8.2.2)
set_option maxHeartbeats 4000000 in
set_option maxRecDepth 100000 in
theorem c_X5_countNet (l : Launch) (dC : Nat → ClassId) (dI : Nat → Nat → Nat) (cy : ClassId) (ax axr axb axj axi axu : Nat) (sz : Nat) (vxn : Int32) (vxk : Int32) (vxA : Int64) (vxB : Int64) (vxC : Int64) (vxE : Int64) (fxj : Nat → Int32)  (res : Int64 × Int64) (h : fX5_countNet vxk vxA vxB fxj = some res) : Met l yX5_countNet wsX5_countNet ({ frames := 3, cells := 0, slots := 0, locals := 70 }) (va_Pc [.ref ax] (PW (dC, dI) cy sz [(ax, .inr (5, [.int vxn, .ref axr, .ref axb, .ref axj, .int vxk, .ref axi, .ref axu, .long vxA, .long vxB, .long vxC, .long vxE])), (axj, .inl (cy, 6, .inl fxj))])) (va_Qv (fun (_ : Unit) => True) (QW (dC, dI) cy (va_A [(ax, .inr (5, [.int vxn, .ref axr, .ref axb, .ref axj, .int vxk, .ref axi, .ref axu, .long vxA, .long vxB, .long vxC, .long vxE])), (axj, .inl (cy, 6, .inl fxj))] sz) [(ax, .inr (5, [.int vxn, .ref axr, .ref axb, .ref axj, .int vxk, .ref axi, .ref axu, .long res.1, .long res.2, .long vxC, .long vxE])), (axj, .inl (cy, 6, .inl fxj))]) (va_A [(ax, .inr (5, [.int vxn, .ref axr, .ref axb, .ref axj, .int vxk, .ref axi, .ref axu, .long vxA, .long vxB, .long vxC, .long vxE])), (axj, .inl (cy, 6, .inl fxj))] sz)) 0 0 (va_A [(ax, .inr (5, [.int vxn, .ref axr, .ref axb, .ref axj, .int vxk, .ref axi, .ref axu, .long vxA, .long vxB, .long vxC, .long vxE])), (axj, .inl (cy, 6, .inl fxj))] sz) := by
  refine Met.ofW (cc := cX5_countNet) (maxL := 2) (ret := none) (by decide) rfl ?_
  intro p e s m args below meth c s₁ B hml hv
  obtain ⟨rfl, hsz, hP, hK, hD0, hN⟩ := hv
  have hx := B.exec
  have hb := B.bytes
  have hr := B.returns
  have hts := atoms_spec (ws := wsX5_countNet) B.pre
  have hown : s.vm.findClass RX5 = some m.cls := findClass_of_methodNamed B.named
  have hlocks := B.notSynchronized
  subst hsz
  have hD := hD0.self (sz := s.heap.size)
  clear hD0
  generalize hAe : va_A [(ax, .inr (5, [.int vxn, .ref axr, .ref axb, .ref axj, .int vxk, .ref axi, .ref axu, .long vxA, .long vxB, .long vxC, .long vxE])), (axj, .inl (cy, 6, .inl fxj))] s.heap.size = A at hD ⊢
  have hA : ∀ q : Nat, s.heap.size ≤ q → A q := fun q h => by rw [← hAe]; exact Or.inr h
  have hS : va_S A s.heap s.heap [] := va_S.rf
  have hl := lv_entry ([.ref ax]) (n := 2) (Nat.le_of_ble_eq_true rfl)
  rw [lg_entry_eq]
  generalize (lg_sl ([.ref ax]) ++ List.replicate (2 - (lg_sl ([.ref ax])).length) Slot.unset).toArray = ls at hl ⊢
  replace hl : lv_has ls 2 [(0, .ref ax)] := hl
  replace hP : va_P (dC, dI) vwCl [(ax, .inr (5, [.int vxn, .ref axr, .ref axb, .ref axj, .int vxk, .ref axi, .ref axu, .long vxA, .long vxB, .long vxC, .long vxE])), (axj, .inl (cy, 6, .inl fxj))] s.heap := hP
  obtain ⟨locs, hlocs⟩ : ∃ lc : List Loc, lc = [] := ⟨_, rfl⟩
  rw [← hlocs] at hS ⊢
  obtain ⟨H, hH⟩ : ∃ H : Heap, H = s.heap := ⟨_, rfl⟩
  have hP2 := hP; rw [← hH] at hP2
  have hS2 : va_S A s.heap H locs := by rw [hH]; exact hS
  suffices hgo : W p l e (headSpec wsX5_countNet ({ frames := 3, cells := 0, slots := 0, locals := 70 })).room s m (([.ref ax] : List Value).toArray) below meth c H locs 0 0 (MQ below (va_Qv (fun (_ : Unit) => True) (QW (dC, dI) cy A [(ax, .inr (5, [.int vxn, .ref axr, .ref axb, .ref axj, .int vxk, .ref axi, .ref axu, .long res.1, .long res.2, .long vxC, .long vxE])), (axj, .inl (cy, 6, .inl fxj))]) A) (([.ref ax] : List Value).toArray) s 0 0 A) (F0 m 0 ls []) by rw [hH] at hgo; exact hgo
  replace hP := hP2
  replace hS := hS2
  clear hP2 hS2
  have hin_X5 : ∀ w ∈ wsX50, w ∈ wsX5_countNet := by decide +kernel
  have hf_23 := hts (.fieldLink RX5 23 "FewLooksModel" "k" "I") (by decide +kernel)
  have hf_107 := hts (.fieldLink RX5 107 "FewLooksModel" "above" "J") (by decide +kernel)
  have hf_111 := hts (.fieldLink RX5 111 "FewLooksModel" "below" "J") (by decide +kernel)
  unfold fX5_countNet at h
  refine lv_aload_n hx hb dX5_countNet_0 rfl (lv_at hl 0 rfl) ?_
  refine lv_lconst (v := (0 : Int64)) hx hb dX5_countNet_1 (by decide) ?_
  refine va_put (D := (dC, dI)) (ci := 5) (v := .long (0 : Int64)) (ty := .long) (C := RX5) (T := TX5) (N := 11) hx hb hts hin_X5 tyX5 tyX5_ok nmX5 hown hK hP hD hS 0 rfl rfl 7 (by decide) (hf_107) (fun _ h9 => h9) rfl (by decide +kernel) rfl rfl (Nat.le_of_ble_eq_true rfl) dX5_countNet_2 (fun H locs hP hD hS => ?_)
  replace hP : va_P (dC, dI) vwCl [(ax, .inr (5, [.int vxn, .ref axr, .ref axb, .ref axj, .int vxk, .ref axi, .ref axu, .long (0 : Int64), .long vxB, .long vxC, .long vxE])), (axj, .inl (cy, 6, .inl fxj))] H := hP
  replace hD : va_D A [(ax, .inr (5, [.int vxn, .ref axr, .ref axb, .ref axj, .int vxk, .ref axi, .ref axu, .long (0 : Int64), .long vxB, .long vxC, .long vxE])), (axj, .inl (cy, 6, .inl fxj))] := hD
  refine lv_aload_n hx hb dX5_countNet_5 rfl (lv_at hl 0 rfl) ?_
  refine lv_lconst (v := (0 : Int64)) hx hb dX5_countNet_6 (by decide) ?_
  refine va_put (D := (dC, dI)) (ci := 5) (v := .long (0 : Int64)) (ty := .long) (C := RX5) (T := TX5) (N := 11) hx hb hts hin_X5 tyX5 tyX5_ok nmX5 hown hK hP hD hS 0 rfl rfl 8 (by decide) (hf_111) (fun _ h9 => h9) rfl (by decide +kernel) rfl rfl (Nat.le_of_ble_eq_true rfl) dX5_countNet_7 (fun H locs hP hD hS => ?_)
  replace hP : va_P (dC, dI) vwCl [(ax, .inr (5, [.int vxn, .ref axr, .ref axb, .ref axj, .int vxk, .ref axi, .ref axu, .long (0 : Int64), .long (0 : Int64), .long vxC, .long vxE])), (axj, .inl (cy, 6, .inl fxj))] H := hP
  replace hD : va_D A [(ax, .inr (5, [.int vxn, .ref axr, .ref axb, .ref axj, .int vxk, .ref axi, .ref axu, .long (0 : Int64), .long (0 : Int64), .long vxC, .long vxE])), (axj, .inl (cy, 6, .inl fxj))] := hD
  refine lv_iconst (v := (0 : Int32)) hx hb dX5_countNet_10 (by decide) ?_
  refine lv_istore_n (lv' := [(1, .int (0 : Int32)), (0, .ref ax)]) hx hb dX5_countNet_11 rfl hl (by decide) rfl (fun ls hl => ?_)
  have L12_6 : ∀ (n : Nat) (l1 : Int32) (vxA : Int64) (vxB : Int64) (rs : (Int32 × Int64 × Int64)) (H : Heap) (locs : List Loc) (ls : Array Slot), fX5_countNet_L12 n l1 vxk vxA vxB fxj = some rs → lv_has ls 2 [(0, .ref ax), (1, .int l1)] → va_P (dC, dI) vwCl [(ax, .inr (5, [.int vxn, .ref axr, .ref axb, .ref axj, .int vxk, .ref axi, .ref axu, .long vxA, .long vxB, .long vxC, .long vxE])), (axj, .inl (cy, 6, .inl fxj))] H → va_D A [(ax, .inr (5, [.int vxn, .ref axr, .ref axb, .ref axj, .int vxk, .ref axi, .ref axu, .long vxA, .long vxB, .long vxC, .long vxE])), (axj, .inl (cy, 6, .inl fxj))] → va_S A s.heap H locs → (∀ (H : Heap) (locs : List Loc) (ls : Array Slot), lv_has ls 2 [(0, .ref ax), (1, .int rs.1)] → va_P (dC, dI) vwCl [(ax, .inr (5, [.int vxn, .ref axr, .ref axb, .ref axj, .int vxk, .ref axi, .ref axu, .long rs.2.1, .long rs.2.2, .long vxC, .long vxE])), (axj, .inl (cy, 6, .inl fxj))] H → va_D A [(ax, .inr (5, [.int vxn, .ref axr, .ref axb, .ref axj, .int vxk, .ref axi, .ref axu, .long rs.2.1, .long rs.2.2, .long vxC, .long vxE])), (axj, .inl (cy, 6, .inl fxj))] → va_S A s.heap H locs → W p l e (headSpec wsX5_countNet ({ frames := 3, cells := 0, slots := 0, locals := 70 })).room s m (([.ref ax] : List Value).toArray) below meth c H locs 0 0 (MQ below (va_Qv (fun (_ : Unit) => True) (QW (dC, dI) cy A [(ax, .inr (5, [.int vxn, .ref axr, .ref axb, .ref axj, .int vxk, .ref axi, .ref axu, .long res.1, .long res.2, .long vxC, .long vxE])), (axj, .inl (cy, 6, .inl fxj))]) A) (([.ref ax] : List Value).toArray) s 0 0 A) (F0 m 67 ls [])) → W p l e (headSpec wsX5_countNet ({ frames := 3, cells := 0, slots := 0, locals := 70 })).room s m (([.ref ax] : List Value).toArray) below meth c H locs 0 0 (MQ below (va_Qv (fun (_ : Unit) => True) (QW (dC, dI) cy A [(ax, .inr (5, [.int vxn, .ref axr, .ref axb, .ref axj, .int vxk, .ref axi, .ref axu, .long res.1, .long res.2, .long vxC, .long vxE])), (axj, .inl (cy, 6, .inl fxj))]) A) (([.ref ax] : List Value).toArray) s 0 0 A) (F0 m 12 ls []) := by
    intro n
    induction n with
    | zero =>
      intro l1 vxA vxB rs H locs ls h
      rw [fX5_countNet_L12_0] at h
      cases h
    | succ n ih =>
      intro l1 vxA vxB rs H locs ls h hl hP hD hS K
      rw [fX5_countNet_L12_s] at h
      refine lv_iload_n hx hb dX5_countNet_12 rfl (lv_at hl 1 rfl) ?_
      refine lv_bipush (v := (64 : Int32)) hx hb dX5_countNet_13 (by decide) ?_
      refine lv_icmp_ge (tgt := 67) hx hb dX5_countNet_15 (by decide) (fun c6 => ?_) (fun c6 => ?_)
      · rw [if_pos c6] at h
        have h0 := Option.some.inj h
        subst h0
        exact K H locs ls (lv_sub hl [0, 1] rfl) hP hD hS
      · rw [if_neg c6] at h
        refine lv_iload_n hx hb dX5_countNet_18 rfl (lv_at hl 1 rfl) ?_
        obtain ⟨r1, hr1, h⟩ := bd_some h
        have hFc := va_free (wc := []) hD hS hA [] rfl
        refine va_calli (va_runS (As := [.int l1]) (rest := []) ⟨hx, hb, hml, hown, hts⟩ (c_X5_ones l dC dI cy  H.size  l1 r1 hr1) (va_cwS 1 hts gX5_countNet_X5_ones rfl rfl rfl (by decide +kernel) ⟨Nat.le_of_ble_eq_true rfl, Nat.le_of_ble_eq_true rfl⟩) ⟨PW_fb, PW_pre (hP.sub (ws' := []) [] rfl) hK (hD.sub [] (by decide) rfl) hN⟩ rfl rfl hl.1 rfl (lv_room (Nat.le_of_ble_eq_true rfl)) dX5_countNet_19 ⟨Nat.zero_le _, Nat.zero_le _⟩) hS (fun q _ h => hFc q h) hFc (fun rz u t H locs ht hvm hw hB hz1 hk1 hS => ?_)
        obtain ⟨hP, hD⟩ := jn (wr := [(ax, .inr (5, [.int vxn, .ref axr, .ref axb, .ref axj, .int vxk, .ref axi, .ref axu, .long vxA, .long vxB, .long vxC, .long vxE])), (axj, .inl (cy, 6, .inl fxj))]) (w1 := []) (ws' := [(ax, .inr (5, [.int vxn, .ref axr, .ref axb, .ref axj, .int vxk, .ref axi, .ref axu, .long vxA, .long vxB, .long vxC, .long vxE])), (axj, .inl (cy, 6, .inl fxj))]) hP hD [] [0, 1] rfl rfl (by decide) (by decide) hk1 hFc hB ht [0, 1] rfl (by decide) rfl
        replace hw := hw.symm
        subst hw
        clear hFc hB hk1 hz1 hvm
        refine lv_aload_n hx hb dX5_countNet_22 rfl (lv_at hl 0 rfl) ?_
        refine va_get (D := (dC, dI)) (ci := 5) (v := .int vxk) (C := RX5) (T := TX5) (N := 11) hx hb hts hin_X5 hown hK hP 0 rfl rfl 4 (by decide) (hf_23) (fun _ h9 => h9) rfl dX5_countNet_23 ?_
        refine lv_icmp_ne (tgt := 61) hx hb dX5_countNet_26 (by decide) (fun c5 => ?_) (fun c5 => ?_)
        · rw [if_neg c5] at h
          refine lv_iinc (v := l1 + (1 : Int32)) (lv' := [(1, .int (l1 + (1 : Int32))), (0, .ref ax)]) hx hb dX5_countNet_61 hl (k := 1) rfl rfl (by decide) rfl (fun ls hl => ?_)
          refine lv_goto (tgt := 12) hx hb dX5_countNet_64 (by decide) ?_
          exact ih (l1 + (1 : Int32)) vxA vxB rs H locs ls h (lv_sub hl [1, 0] rfl) hP hD hS K
        · rw [if_pos c5] at h
          refine lv_aload_n hx hb dX5_countNet_29 rfl (lv_at hl 0 rfl) ?_
          refine lv_dup hx hb dX5_countNet_30 rfl ?_
          refine va_get (D := (dC, dI)) (ci := 5) (v := .long vxA) (C := RX5) (T := TX5) (N := 11) hx hb hts hin_X5 hown hK hP 0 rfl rfl 7 (by decide) (hf_107) (fun _ h9 => h9) rfl dX5_countNet_31 ?_
          refine lv_aload_n hx hb dX5_countNet_34 rfl (lv_at hl 0 rfl) ?_
          refine lv_iload_n hx hb dX5_countNet_35 rfl (lv_at hl 1 rfl) ?_
          obtain ⟨r2, hr2, h⟩ := bd_some h
          have hFc := va_free (wc := [(ax, .inr (5, [.int vxn, .ref axr, .ref axb, .ref axj, .int vxk, .ref axi, .ref axu, .long vxA, .long vxB, .long vxC, .long vxE])), (axj, .inl (cy, 6, .inl fxj))]) hD hS hA [0, 1] rfl
          refine va_calli (va_runV (As := [.int l1]) (rest := [.long vxA, .ref ax]) ⟨hx, hb, hml, hown, hts⟩ (c_X5_passesNet l dC dI cy ax axr axb axj axi axu H.size vxn vxk vxA vxB vxC vxE fxj l1 r2 hr2) (cwV 1 hts gX5_countNet_X5_passesNet rfl rfl rfl (by decide +kernel) ⟨Nat.le_of_ble_eq_true rfl, Nat.le_of_ble_eq_true rfl⟩) ⟨PW_fb, va_recv hK hP (ci := 5) (q0 := 0) rfl rfl, PW_pre (hP.sub (ws' := [(ax, .inr (5, [.int vxn, .ref axr, .ref axb, .ref axj, .int vxk, .ref axi, .ref axu, .long vxA, .long vxB, .long vxC, .long vxE])), (axj, .inl (cy, 6, .inl fxj))]) [0, 1] rfl) hK (hD.sub [0, 1] (by decide) rfl) hN⟩ rfl rfl hl.1 rfl (lv_room (Nat.le_of_ble_eq_true rfl)) dX5_countNet_36 ⟨Nat.zero_le _, Nat.zero_le _⟩) hS (fun q _ h => hFc q h) hFc (fun rz u t H locs ht hvm hw hB hz1 hk1 hS => ?_)
          obtain ⟨hP, hD⟩ := jn (wr := []) (w1 := [(ax, .inr (5, [.int vxn, .ref axr, .ref axb, .ref axj, .int vxk, .ref axi, .ref axu, .long vxA, .long vxB, .long vxC, .long vxE])), (axj, .inl (cy, 6, .inl fxj))]) (ws' := [(ax, .inr (5, [.int vxn, .ref axr, .ref axb, .ref axj, .int vxk, .ref axi, .ref axu, .long vxA, .long vxB, .long vxC, .long vxE])), (axj, .inl (cy, 6, .inl fxj))]) hP hD [0, 1] [] rfl rfl (by decide) (by decide) hk1 hFc hB ht [0, 1] rfl (by decide) rfl
          obtain ⟨hw, br2⟩ := hw
          replace hw := hw.symm
          subst hw
          clear hFc hB hk1 hz1 hvm
          obtain ⟨q3, hq3, h⟩ := bd_some h
          have Jq3 : ∀ (H : Heap) (locs : List Loc) (ls : Array Slot), lv_has ls 2 [(0, .ref ax), (1, .int l1)] → va_P (dC, dI) vwCl [(ax, .inr (5, [.int vxn, .ref axr, .ref axb, .ref axj, .int vxk, .ref axi, .ref axu, .long vxA, .long vxB, .long vxC, .long vxE])), (axj, .inl (cy, 6, .inl fxj))] H → va_D A [(ax, .inr (5, [.int vxn, .ref axr, .ref axb, .ref axj, .int vxk, .ref axi, .ref axu, .long vxA, .long vxB, .long vxC, .long vxE])), (axj, .inl (cy, 6, .inl fxj))] → va_S A s.heap H locs → W p l e (headSpec wsX5_countNet ({ frames := 3, cells := 0, slots := 0, locals := 70 })).room s m (([.ref ax] : List Value).toArray) below meth c H locs 0 0 (MQ below (va_Qv (fun (_ : Unit) => True) (QW (dC, dI) cy A [(ax, .inr (5, [.int vxn, .ref axr, .ref axb, .ref axj, .int vxk, .ref axi, .ref axu, .long res.1, .long res.2, .long vxC, .long vxE])), (axj, .inl (cy, 6, .inl fxj))]) A) (([.ref ax] : List Value).toArray) s 0 0 A) (F0 m 47 ls [.long q3, .long vxA, .ref ax]) := by
            intro H locs ls hl hP hD hS
            refine lv_ladd hx hb dX5_countNet_47 ?_
            refine va_put (D := (dC, dI)) (ci := 5) (v := .long (vxA + q3)) (ty := .long) (C := RX5) (T := TX5) (N := 11) hx hb hts hin_X5 tyX5 tyX5_ok nmX5 hown hK hP hD hS 0 rfl rfl 7 (by decide) (hf_107) (fun _ h9 => h9) rfl (by decide +kernel) rfl rfl (Nat.le_of_ble_eq_true rfl) dX5_countNet_48 (fun H locs hP hD hS => ?_)
            replace hP : va_P (dC, dI) vwCl [(ax, .inr (5, [.int vxn, .ref axr, .ref axb, .ref axj, .int vxk, .ref axi, .ref axu, .long (vxA + q3), .long vxB, .long vxC, .long vxE])), (axj, .inl (cy, 6, .inl fxj))] H := hP
            replace hD : va_D A [(ax, .inr (5, [.int vxn, .ref axr, .ref axb, .ref axj, .int vxk, .ref axi, .ref axu, .long (vxA + q3), .long vxB, .long vxC, .long vxE])), (axj, .inl (cy, 6, .inl fxj))] := hD
            refine lv_aload_n hx hb dX5_countNet_51 rfl (lv_at hl 0 rfl) ?_
            refine lv_dup hx hb dX5_countNet_52 rfl ?_
            refine va_get (D := (dC, dI)) (ci := 5) (v := .long vxB) (C := RX5) (T := TX5) (N := 11) hx hb hts hin_X5 hown hK hP 0 rfl rfl 8 (by decide) (hf_111) (fun _ h9 => h9) rfl dX5_countNet_53 ?_
            refine lv_lconst (v := (1 : Int64)) hx hb dX5_countNet_56 (by decide) ?_
            refine lv_ladd hx hb dX5_countNet_57 ?_
            refine va_put (D := (dC, dI)) (ci := 5) (v := .long (vxB + (1 : Int64))) (ty := .long) (C := RX5) (T := TX5) (N := 11) hx hb hts hin_X5 tyX5 tyX5_ok nmX5 hown hK hP hD hS 0 rfl rfl 8 (by decide) (hf_111) (fun _ h9 => h9) rfl (by decide +kernel) rfl rfl (Nat.le_of_ble_eq_true rfl) dX5_countNet_58 (fun H locs hP hD hS => ?_)
            replace hP : va_P (dC, dI) vwCl [(ax, .inr (5, [.int vxn, .ref axr, .ref axb, .ref axj, .int vxk, .ref axi, .ref axu, .long (vxA + q3), .long (vxB + (1 : Int64)), .long vxC, .long vxE])), (axj, .inl (cy, 6, .inl fxj))] H := hP
            replace hD : va_D A [(ax, .inr (5, [.int vxn, .ref axr, .ref axb, .ref axj, .int vxk, .ref axi, .ref axu, .long (vxA + q3), .long (vxB + (1 : Int64)), .long vxC, .long vxE])), (axj, .inl (cy, 6, .inl fxj))] := hD
            refine lv_iinc (v := l1 + (1 : Int32)) (lv' := [(1, .int (l1 + (1 : Int32))), (0, .ref ax)]) hx hb dX5_countNet_61 hl (k := 1) rfl rfl (by decide) rfl (fun ls hl => ?_)
            refine lv_goto (tgt := 12) hx hb dX5_countNet_64 (by decide) ?_
            exact ih (l1 + (1 : Int32)) (vxA + q3) (vxB + (1 : Int64)) rs H locs ls h (lv_sub hl [1, 0] rfl) hP hD hS K
          replace h := hq3
          refine lv_if_eq (tgt := 46) hx hb dX5_countNet_39 (by decide) (fun c4 => ?_) (fun c4 => ?_)
          · rw [if_pos c4] at h
            refine lv_lconst (v := (0 : Int64)) hx hb dX5_countNet_46 (by decide) ?_
            have h0 := Option.some.inj h
            subst h0
            exact Jq3 H locs ls (lv_sub hl [0, 1] rfl) hP hD hS
          · rw [if_neg c4] at h
            refine lv_lconst (v := (1 : Int64)) hx hb dX5_countNet_42 (by decide) ?_
            refine lv_goto (tgt := 47) hx hb dX5_countNet_43 (by decide) ?_
            have h0 := Option.some.inj h
            subst h0
            exact Jq3 H locs ls (lv_sub hl [0, 1] rfl) hP hD hS
  obtain ⟨q8, hq8, h⟩ := bd_some h
  refine L12_6 FU (0 : Int32) (0 : Int64) (0 : Int64) q8 H locs ls hq8 (lv_sub hl [1, 0] rfl) hP hD hS (fun H locs ls hl hP hD hS => ?_)
  have h0 := Option.some.inj h
  subst h0
  exact W.vret hx hb hr (fun t ht hW => ⟨⟨(), rfl, trivial, QW_mk hP hK hD ht hW⟩, hS.F ht⟩) hS.2.2 dX5_countNet_67

noncomputable def fX5_reduce_L10 (n : Nat) (l1 : Int64) (l3 : Int64) : Option (Int64 × Int64) := match n with
  | 0 => none
  | n + 1 => if (lg_cmp l3 (0 : Int64)) = 0 then (some (l1, l3)) else (gnl l3 (fX5_reduce_L10 n l3 (l1 - l1 / l3 * l3)))
theorem fX5_reduce_L10_0 (l1 : Int64) (l3 : Int64) : fX5_reduce_L10 0 l1 l3 = none := rfl
theorem fX5_reduce_L10_s (n : Nat) (l1 : Int64) (l3 : Int64) : fX5_reduce_L10 (n + 1) l1 l3 = if (lg_cmp l3 (0 : Int64)) = 0 then (some (l1, l3)) else (gnl l3 (fX5_reduce_L10 n l3 (l1 - l1 / l3 * l3))) := rfl
noncomputable def fX5_reduce (vxA : Int64) (vxB : Int64)  : Option (Int64 × Int64) := bd (fX5_reduce_L10 FU vxA vxB) fun q3 => gnl q3.1 (gnl q3.1 (some (vxA / q3.1, vxB / q3.1)))
set_option maxHeartbeats 4000000 in
set_option maxRecDepth 100000 in
theorem c_X5_reduce (l : Launch) (dC : Nat → ClassId) (dI : Nat → Nat → Nat) (cy : ClassId) (ax axr axb axj axi axu : Nat) (sz : Nat) (vxn : Int32) (vxk : Int32) (vxA : Int64) (vxB : Int64) (vxC : Int64) (vxE : Int64)  (res : Int64 × Int64) (h : fX5_reduce vxA vxB = some res) : Met l yX5_reduce wsX5_reduce ({ frames := 0, cells := 0, slots := 0, locals := 0 }) (va_Pc [.ref ax] (PW (dC, dI) cy sz [(ax, .inr (5, [.int vxn, .ref axr, .ref axb, .ref axj, .int vxk, .ref axi, .ref axu, .long vxA, .long vxB, .long vxC, .long vxE]))])) (va_Qv (fun (_ : Unit) => True) (QW (dC, dI) cy (va_A [(ax, .inr (5, [.int vxn, .ref axr, .ref axb, .ref axj, .int vxk, .ref axi, .ref axu, .long vxA, .long vxB, .long vxC, .long vxE]))] sz) [(ax, .inr (5, [.int vxn, .ref axr, .ref axb, .ref axj, .int vxk, .ref axi, .ref axu, .long res.1, .long res.2, .long vxC, .long vxE]))]) (va_A [(ax, .inr (5, [.int vxn, .ref axr, .ref axb, .ref axj, .int vxk, .ref axi, .ref axu, .long vxA, .long vxB, .long vxC, .long vxE]))] sz)) 0 0 (va_A [(ax, .inr (5, [.int vxn, .ref axr, .ref axb, .ref axj, .int vxk, .ref axi, .ref axu, .long vxA, .long vxB, .long vxC, .long vxE]))] sz) := by
  refine Met.ofW (cc := cX5_reduce) (maxL := 7) (ret := none) (by decide) rfl ?_
  intro p e s m args below meth c s₁ B hml hv
  obtain ⟨rfl, hsz, hP, hK, hD0, hN⟩ := hv
  have hx := B.exec
  have hb := B.bytes
  have hr := B.returns
  have hts := atoms_spec (ws := wsX5_reduce) B.pre
  have hown : s.vm.findClass RX5 = some m.cls := findClass_of_methodNamed B.named
  have hlocks := B.notSynchronized
  subst hsz
  have hD := hD0.self (sz := s.heap.size)
  clear hD0
  generalize hAe : va_A [(ax, .inr (5, [.int vxn, .ref axr, .ref axb, .ref axj, .int vxk, .ref axi, .ref axu, .long vxA, .long vxB, .long vxC, .long vxE]))] s.heap.size = A at hD ⊢
  have hA : ∀ q : Nat, s.heap.size ≤ q → A q := fun q h => by rw [← hAe]; exact Or.inr h
  have hS : va_S A s.heap s.heap [] := va_S.rf
  have hl := lv_entry ([.ref ax]) (n := 7) (Nat.le_of_ble_eq_true rfl)
  rw [lg_entry_eq]
  generalize (lg_sl ([.ref ax]) ++ List.replicate (7 - (lg_sl ([.ref ax])).length) Slot.unset).toArray = ls at hl ⊢
  replace hl : lv_has ls 7 [(0, .ref ax)] := hl
  replace hP : va_P (dC, dI) vwCl [(ax, .inr (5, [.int vxn, .ref axr, .ref axb, .ref axj, .int vxk, .ref axi, .ref axu, .long vxA, .long vxB, .long vxC, .long vxE]))] s.heap := hP
  obtain ⟨locs, hlocs⟩ : ∃ lc : List Loc, lc = [] := ⟨_, rfl⟩
  rw [← hlocs] at hS ⊢
  obtain ⟨H, hH⟩ : ∃ H : Heap, H = s.heap := ⟨_, rfl⟩
  have hP2 := hP; rw [← hH] at hP2
  have hS2 : va_S A s.heap H locs := by rw [hH]; exact hS
  suffices hgo : W p l e (headSpec wsX5_reduce ({ frames := 0, cells := 0, slots := 0, locals := 0 })).room s m (([.ref ax] : List Value).toArray) below meth c H locs 0 0 (MQ below (va_Qv (fun (_ : Unit) => True) (QW (dC, dI) cy A [(ax, .inr (5, [.int vxn, .ref axr, .ref axb, .ref axj, .int vxk, .ref axi, .ref axu, .long res.1, .long res.2, .long vxC, .long vxE]))]) A) (([.ref ax] : List Value).toArray) s 0 0 A) (F0 m 0 ls []) by rw [hH] at hgo; exact hgo
  replace hP := hP2
  replace hS := hS2
  clear hP2 hS2
  have hin_X5 : ∀ w ∈ wsX50, w ∈ wsX5_reduce := by decide +kernel
  have hf_107 := hts (.fieldLink RX5 107 "FewLooksModel" "above" "J") (by decide +kernel)
  have hf_111 := hts (.fieldLink RX5 111 "FewLooksModel" "below" "J") (by decide +kernel)
  unfold fX5_reduce at h
  refine lv_aload_n hx hb dX5_reduce_0 rfl (lv_at hl 0 rfl) ?_
  refine va_get (D := (dC, dI)) (ci := 5) (v := .long vxA) (C := RX5) (T := TX5) (N := 11) hx hb hts hin_X5 hown hK hP 0 rfl rfl 7 (by decide) (hf_107) (fun _ h9 => h9) rfl dX5_reduce_1 ?_
  refine lv_lstore_n (lv' := [(1, .long vxA), (0, .ref ax)]) hx hb dX5_reduce_4 rfl hl (by decide) rfl (fun ls hl => ?_)
  refine lv_aload_n hx hb dX5_reduce_5 rfl (lv_at hl 1 rfl) ?_
  refine va_get (D := (dC, dI)) (ci := 5) (v := .long vxB) (C := RX5) (T := TX5) (N := 11) hx hb hts hin_X5 hown hK hP 0 rfl rfl 8 (by decide) (hf_111) (fun _ h9 => h9) rfl dX5_reduce_6 ?_
  refine lv_lstore_n (lv' := [(3, .long vxB), (1, .long vxA), (0, .ref ax)]) hx hb dX5_reduce_9 rfl hl (by decide) rfl (fun ls hl => ?_)
  have L10_1 : ∀ (n : Nat) (l1 : Int64) (l3 : Int64) (vxA : Int64) (vxB : Int64) (rs : (Int64 × Int64)) (H : Heap) (locs : List Loc) (ls : Array Slot), fX5_reduce_L10 n l1 l3 = some rs → lv_has ls 7 [(0, .ref ax), (1, .long l1), (3, .long l3)] → va_P (dC, dI) vwCl [(ax, .inr (5, [.int vxn, .ref axr, .ref axb, .ref axj, .int vxk, .ref axi, .ref axu, .long vxA, .long vxB, .long vxC, .long vxE]))] H → va_D A [(ax, .inr (5, [.int vxn, .ref axr, .ref axb, .ref axj, .int vxk, .ref axi, .ref axu, .long vxA, .long vxB, .long vxC, .long vxE]))] → va_S A s.heap H locs → (∀ (H : Heap) (locs : List Loc) (ls : Array Slot), lv_has ls 7 [(0, .ref ax), (1, .long rs.1), (3, .long rs.2)] → va_P (dC, dI) vwCl [(ax, .inr (5, [.int vxn, .ref axr, .ref axb, .ref axj, .int vxk, .ref axi, .ref axu, .long vxA, .long vxB, .long vxC, .long vxE]))] H → va_D A [(ax, .inr (5, [.int vxn, .ref axr, .ref axb, .ref axj, .int vxk, .ref axi, .ref axu, .long vxA, .long vxB, .long vxC, .long vxE]))] → va_S A s.heap H locs → W p l e (headSpec wsX5_reduce ({ frames := 0, cells := 0, slots := 0, locals := 0 })).room s m (([.ref ax] : List Value).toArray) below meth c H locs 0 0 (MQ below (va_Qv (fun (_ : Unit) => True) (QW (dC, dI) cy A [(ax, .inr (5, [.int vxn, .ref axr, .ref axb, .ref axj, .int vxk, .ref axi, .ref axu, .long res.1, .long res.2, .long vxC, .long vxE]))]) A) (([.ref ax] : List Value).toArray) s 0 0 A) (F0 m 29 ls [])) → W p l e (headSpec wsX5_reduce ({ frames := 0, cells := 0, slots := 0, locals := 0 })).room s m (([.ref ax] : List Value).toArray) below meth c H locs 0 0 (MQ below (va_Qv (fun (_ : Unit) => True) (QW (dC, dI) cy A [(ax, .inr (5, [.int vxn, .ref axr, .ref axb, .ref axj, .int vxk, .ref axi, .ref axu, .long res.1, .long res.2, .long vxC, .long vxE]))]) A) (([.ref ax] : List Value).toArray) s 0 0 A) (F0 m 10 ls []) := by
    intro n
    induction n with
    | zero =>
      intro l1 l3 vxA vxB rs H locs ls h
      rw [fX5_reduce_L10_0] at h
      cases h
    | succ n ih =>
      intro l1 l3 vxA vxB rs H locs ls h hl hP hD hS K
      rw [fX5_reduce_L10_s] at h
      refine lv_lload_n hx hb dX5_reduce_10 rfl (lv_at hl 2 rfl) ?_
      refine lv_lconst (v := (0 : Int64)) hx hb dX5_reduce_11 (by decide) ?_
      refine W.lcmp hx hb dX5_reduce_12 ?_
      refine lv_if_eq (tgt := 29) hx hb dX5_reduce_13 (by decide) (fun c1 => ?_) (fun c1 => ?_)
      · rw [if_pos c1] at h
        have h0 := Option.some.inj h
        subst h0
        exact K H locs ls (lv_sub hl [0, 1, 2] rfl) hP hD hS
      · rw [if_neg c1] at h
        refine lv_lload_n hx hb dX5_reduce_16 rfl (lv_at hl 1 rfl) ?_
        refine lv_lload_n hx hb dX5_reduce_17 rfl (lv_at hl 2 rfl) ?_
        obtain ⟨hz, h⟩ := gnl_some h
        refine lv_lrem hx hb dX5_reduce_18 hz ?_
        refine lv_lstore (lv' := [(5, .long (l1 - l1 / l3 * l3)), (0, .ref ax), (1, .long l1), (3, .long l3)]) hx hb dX5_reduce_19 hl (by decide) rfl (fun ls hl => ?_)
        refine lv_lload_n hx hb dX5_reduce_21 rfl (lv_at hl 3 rfl) ?_
        refine lv_lstore_n (lv' := [(1, .long l3), (5, .long (l1 - l1 / l3 * l3)), (0, .ref ax), (3, .long l3)]) hx hb dX5_reduce_22 rfl hl (by decide) rfl (fun ls hl => ?_)
        refine lv_lload hx hb dX5_reduce_23 (lv_at hl 1 rfl) ?_
        refine lv_lstore_n (lv' := [(3, .long (l1 - l1 / l3 * l3)), (1, .long l3), (5, .long (l1 - l1 / l3 * l3)), (0, .ref ax)]) hx hb dX5_reduce_25 rfl hl (by decide) rfl (fun ls hl => ?_)
        refine lv_goto (tgt := 10) hx hb dX5_reduce_26 (by decide) ?_
        exact ih l3 (l1 - l1 / l3 * l3) vxA vxB rs H locs ls h (lv_sub hl [3, 1, 0] rfl) hP hD hS K
  obtain ⟨q3, hq3, h⟩ := bd_some h
  refine L10_1 FU vxA vxB vxA vxB q3 H locs ls hq3 (lv_sub hl [2, 1, 0] rfl) hP hD hS (fun H locs ls hl hP hD hS => ?_)
  refine lv_aload_n hx hb dX5_reduce_29 rfl (lv_at hl 0 rfl) ?_
  refine lv_dup hx hb dX5_reduce_30 rfl ?_
  refine va_get (D := (dC, dI)) (ci := 5) (v := .long vxA) (C := RX5) (T := TX5) (N := 11) hx hb hts hin_X5 hown hK hP 0 rfl rfl 7 (by decide) (hf_107) (fun _ h9 => h9) rfl dX5_reduce_31 ?_
  refine lv_lload_n hx hb dX5_reduce_34 rfl (lv_at hl 1 rfl) ?_
  obtain ⟨hz, h⟩ := gnl_some h
  refine lv_ldiv hx hb dX5_reduce_35 hz ?_
  refine va_put (D := (dC, dI)) (ci := 5) (v := .long (vxA / q3.1)) (ty := .long) (C := RX5) (T := TX5) (N := 11) hx hb hts hin_X5 tyX5 tyX5_ok nmX5 hown hK hP hD hS 0 rfl rfl 7 (by decide) (hf_107) (fun _ h9 => h9) rfl (by decide +kernel) rfl rfl (Nat.le_of_ble_eq_true rfl) dX5_reduce_36 (fun H locs hP hD hS => ?_)
  replace hP : va_P (dC, dI) vwCl [(ax, .inr (5, [.int vxn, .ref axr, .ref axb, .ref axj, .int vxk, .ref axi, .ref axu, .long (vxA / q3.1), .long vxB, .long vxC, .long vxE]))] H := hP
  replace hD : va_D A [(ax, .inr (5, [.int vxn, .ref axr, .ref axb, .ref axj, .int vxk, .ref axi, .ref axu, .long (vxA / q3.1), .long vxB, .long vxC, .long vxE]))] := hD
  refine lv_aload_n hx hb dX5_reduce_39 rfl (lv_at hl 0 rfl) ?_
  refine lv_dup hx hb dX5_reduce_40 rfl ?_
  refine va_get (D := (dC, dI)) (ci := 5) (v := .long vxB) (C := RX5) (T := TX5) (N := 11) hx hb hts hin_X5 hown hK hP 0 rfl rfl 8 (by decide) (hf_111) (fun _ h9 => h9) rfl dX5_reduce_41 ?_
  refine lv_lload_n hx hb dX5_reduce_44 rfl (lv_at hl 1 rfl) ?_
  obtain ⟨hz, h⟩ := gnl_some h
  refine lv_ldiv hx hb dX5_reduce_45 hz ?_
  refine va_put (D := (dC, dI)) (ci := 5) (v := .long (vxB / q3.1)) (ty := .long) (C := RX5) (T := TX5) (N := 11) hx hb hts hin_X5 tyX5 tyX5_ok nmX5 hown hK hP hD hS 0 rfl rfl 8 (by decide) (hf_111) (fun _ h9 => h9) rfl (by decide +kernel) rfl rfl (Nat.le_of_ble_eq_true rfl) dX5_reduce_46 (fun H locs hP hD hS => ?_)
  replace hP : va_P (dC, dI) vwCl [(ax, .inr (5, [.int vxn, .ref axr, .ref axb, .ref axj, .int vxk, .ref axi, .ref axu, .long (vxA / q3.1), .long (vxB / q3.1), .long vxC, .long vxE]))] H := hP
  replace hD : va_D A [(ax, .inr (5, [.int vxn, .ref axr, .ref axb, .ref axj, .int vxk, .ref axi, .ref axu, .long (vxA / q3.1), .long (vxB / q3.1), .long vxC, .long vxE]))] := hD
  have h0 := Option.some.inj h
  subst h0
  exact W.vret hx hb hr (fun t ht hW => ⟨⟨(), rfl, trivial, QW_mk hP hK hD ht hW⟩, hS.F ht⟩) hS.2.2 dX5_reduce_49

noncomputable def fX5_findPass (vxn : Int32) (vxk : Int32) (vxA : Int64) (vxB : Int64) (fxr : Nat → Int32) (fxb : Nat → Int32) (fxj : Nat → Int32) (fxi : Nat → Int32) (p0 : Int32) : Option (Int64 × Int64 × (Nat → Int32)) := if (4 : Int32) ≤ p0 then (if p0 = (4 : Int32) then (bd (fX5_countTable vxA vxB fxb) fun r3 => bd (fX5_reduce r3.1 r3.2) fun r4 => some (r4.1, r4.2, fxi)) else (bd (fX5_countNet vxk vxA vxB fxj) fun r1 => bd (fX5_reduce r1.1 r1.2) fun r2 => some (r2.1, r2.2, fxi))) else (bd (fX5_takeRow vxn fxr fxi) fun r6 => bd (fX5_countRow vxn vxA vxB r6 p0) fun r7 => bd (fX5_reduce r7.1 r7.2) fun r8 => some (r8.1, r8.2, r6))
set_option maxHeartbeats 4000000 in
set_option maxRecDepth 100000 in
theorem c_X5_findPass (l : Launch) (dC : Nat → ClassId) (dI : Nat → Nat → Nat) (cy : ClassId) (ax axr axb axj axi axu : Nat) (sz : Nat) (vxn : Int32) (vxk : Int32) (vxA : Int64) (vxB : Int64) (vxC : Int64) (vxE : Int64) (fxr : Nat → Int32) (fxb : Nat → Int32) (fxj : Nat → Int32) (fxi : Nat → Int32) (p0 : Int32) (res : Int64 × Int64 × (Nat → Int32)) (h : fX5_findPass vxn vxk vxA vxB fxr fxb fxj fxi p0 = some res) : Met l yX5_findPass wsX5_findPass ({ frames := 4, cells := 0, slots := 0, locals := 91 }) (va_Pc [.ref ax, .int p0] (PW (dC, dI) cy sz [(ax, .inr (5, [.int vxn, .ref axr, .ref axb, .ref axj, .int vxk, .ref axi, .ref axu, .long vxA, .long vxB, .long vxC, .long vxE])), (axr, .inl (cy, 8, .inl fxr)), (axb, .inl (cy, 8, .inl fxb)), (axj, .inl (cy, 6, .inl fxj)), (axi, .inl (cy, 8, .inl fxi))])) (va_Qv (fun (_ : Unit) => True) (QW (dC, dI) cy (va_A [(ax, .inr (5, [.int vxn, .ref axr, .ref axb, .ref axj, .int vxk, .ref axi, .ref axu, .long vxA, .long vxB, .long vxC, .long vxE])), (axr, .inl (cy, 8, .inl fxr)), (axb, .inl (cy, 8, .inl fxb)), (axj, .inl (cy, 6, .inl fxj)), (axi, .inl (cy, 8, .inl fxi))] sz) [(ax, .inr (5, [.int vxn, .ref axr, .ref axb, .ref axj, .int vxk, .ref axi, .ref axu, .long res.1, .long res.2.1, .long vxC, .long vxE])), (axr, .inl (cy, 8, .inl fxr)), (axb, .inl (cy, 8, .inl fxb)), (axj, .inl (cy, 6, .inl fxj)), (axi, .inl (cy, 8, .inl res.2.2))]) (va_A [(ax, .inr (5, [.int vxn, .ref axr, .ref axb, .ref axj, .int vxk, .ref axi, .ref axu, .long vxA, .long vxB, .long vxC, .long vxE])), (axr, .inl (cy, 8, .inl fxr)), (axb, .inl (cy, 8, .inl fxb)), (axj, .inl (cy, 6, .inl fxj)), (axi, .inl (cy, 8, .inl fxi))] sz)) 0 0 (va_A [(ax, .inr (5, [.int vxn, .ref axr, .ref axb, .ref axj, .int vxk, .ref axi, .ref axu, .long vxA, .long vxB, .long vxC, .long vxE])), (axr, .inl (cy, 8, .inl fxr)), (axb, .inl (cy, 8, .inl fxb)), (axj, .inl (cy, 6, .inl fxj)), (axi, .inl (cy, 8, .inl fxi))] sz) := by
  refine Met.ofW (cc := cX5_findPass) (maxL := 2) (ret := none) (by decide) rfl ?_
  intro p e s m args below meth c s₁ B hml hv
  obtain ⟨rfl, hsz, hP, hK, hD0, hN⟩ := hv
  have hx := B.exec
  have hb := B.bytes
  have hr := B.returns
  have hts := atoms_spec (ws := wsX5_findPass) B.pre
  have hown : s.vm.findClass RX5 = some m.cls := findClass_of_methodNamed B.named
  have hlocks := B.notSynchronized
  subst hsz
  have hD := hD0.self (sz := s.heap.size)
  clear hD0
  generalize hAe : va_A [(ax, .inr (5, [.int vxn, .ref axr, .ref axb, .ref axj, .int vxk, .ref axi, .ref axu, .long vxA, .long vxB, .long vxC, .long vxE])), (axr, .inl (cy, 8, .inl fxr)), (axb, .inl (cy, 8, .inl fxb)), (axj, .inl (cy, 6, .inl fxj)), (axi, .inl (cy, 8, .inl fxi))] s.heap.size = A at hD ⊢
  have hA : ∀ q : Nat, s.heap.size ≤ q → A q := fun q h => by rw [← hAe]; exact Or.inr h
  have hS : va_S A s.heap s.heap [] := va_S.rf
  have hl := lv_entry ([.ref ax, .int p0]) (n := 2) (Nat.le_of_ble_eq_true rfl)
  rw [lg_entry_eq]
  generalize (lg_sl ([.ref ax, .int p0]) ++ List.replicate (2 - (lg_sl ([.ref ax, .int p0])).length) Slot.unset).toArray = ls at hl ⊢
  replace hl : lv_has ls 2 [(0, .ref ax), (1, .int p0)] := hl
  replace hP : va_P (dC, dI) vwCl [(ax, .inr (5, [.int vxn, .ref axr, .ref axb, .ref axj, .int vxk, .ref axi, .ref axu, .long vxA, .long vxB, .long vxC, .long vxE])), (axr, .inl (cy, 8, .inl fxr)), (axb, .inl (cy, 8, .inl fxb)), (axj, .inl (cy, 6, .inl fxj)), (axi, .inl (cy, 8, .inl fxi))] s.heap := hP
  obtain ⟨locs, hlocs⟩ : ∃ lc : List Loc, lc = [] := ⟨_, rfl⟩
  rw [← hlocs] at hS ⊢
  obtain ⟨H, hH⟩ : ∃ H : Heap, H = s.heap := ⟨_, rfl⟩
  have hP2 := hP; rw [← hH] at hP2
  have hS2 : va_S A s.heap H locs := by rw [hH]; exact hS
  suffices hgo : W p l e (headSpec wsX5_findPass ({ frames := 4, cells := 0, slots := 0, locals := 91 })).room s m (([.ref ax, .int p0] : List Value).toArray) below meth c H locs 0 0 (MQ below (va_Qv (fun (_ : Unit) => True) (QW (dC, dI) cy A [(ax, .inr (5, [.int vxn, .ref axr, .ref axb, .ref axj, .int vxk, .ref axi, .ref axu, .long res.1, .long res.2.1, .long vxC, .long vxE])), (axr, .inl (cy, 8, .inl fxr)), (axb, .inl (cy, 8, .inl fxb)), (axj, .inl (cy, 6, .inl fxj)), (axi, .inl (cy, 8, .inl res.2.2))]) A) (([.ref ax, .int p0] : List Value).toArray) s 0 0 A) (F0 m 0 ls []) by rw [hH] at hgo; exact hgo
  replace hP := hP2
  replace hS := hS2
  clear hP2 hS2
  unfold fX5_findPass at h
  refine lv_iload_n hx hb dX5_findPass_0 rfl (lv_at hl 1 rfl) ?_
  refine lv_iconst (v := (4 : Int32)) hx hb dX5_findPass_1 (by decide) ?_
  refine lv_icmp_ge (tgt := 17) hx hb dX5_findPass_2 (by decide) (fun c9 => ?_) (fun c9 => ?_)
  · rw [if_pos c9] at h
    refine lv_iload_n hx hb dX5_findPass_17 rfl (lv_at hl 1 rfl) ?_
    refine lv_iconst (v := (4 : Int32)) hx hb dX5_findPass_18 (by decide) ?_
    refine lv_icmp_ne (tgt := 29) hx hb dX5_findPass_19 (by decide) (fun c5 => ?_) (fun c5 => ?_)
    · rw [if_neg c5] at h
      refine lv_aload_n hx hb dX5_findPass_29 rfl (lv_at hl 0 rfl) ?_
      obtain ⟨r1, hr1, h⟩ := bd_some h
      have hFc := va_free (wc := [(ax, .inr (5, [.int vxn, .ref axr, .ref axb, .ref axj, .int vxk, .ref axi, .ref axu, .long vxA, .long vxB, .long vxC, .long vxE])), (axj, .inl (cy, 6, .inl fxj))]) hD hS hA [0, 3] rfl
      refine va_callv (va_runV (As := []) (rest := []) ⟨hx, hb, hml, hown, hts⟩ (c_X5_countNet l dC dI cy ax axr axb axj axi axu H.size vxn vxk vxA vxB vxC vxE fxj  r1 hr1) (cwV 0 hts gX5_findPass_X5_countNet rfl rfl rfl (by decide +kernel) ⟨Nat.le_of_ble_eq_true rfl, Nat.le_of_ble_eq_true rfl⟩) ⟨PW_fb, va_recv hK hP (ci := 5) (q0 := 0) rfl rfl, PW_pre (hP.sub (ws' := [(ax, .inr (5, [.int vxn, .ref axr, .ref axb, .ref axj, .int vxk, .ref axi, .ref axu, .long vxA, .long vxB, .long vxC, .long vxE])), (axj, .inl (cy, 6, .inl fxj))]) [0, 3] rfl) hK (hD.sub [0, 3] (by decide) rfl) hN⟩ rfl rfl hl.1 rfl (lv_room (Nat.le_of_ble_eq_true rfl)) dX5_findPass_30 ⟨Nat.zero_le _, Nat.zero_le _⟩) hS (fun q _ h => hFc q h) hFc (fun u t H locs ht hvm hw hB hz1 hk1 hS => ?_)
      obtain ⟨hP, hD⟩ := jn (wr := [(axr, .inl (cy, 8, .inl fxr)), (axb, .inl (cy, 8, .inl fxb)), (axi, .inl (cy, 8, .inl fxi))]) (w1 := [(ax, .inr (5, [.int vxn, .ref axr, .ref axb, .ref axj, .int vxk, .ref axi, .ref axu, .long r1.1, .long r1.2, .long vxC, .long vxE])), (axj, .inl (cy, 6, .inl fxj))]) (ws' := [(ax, .inr (5, [.int vxn, .ref axr, .ref axb, .ref axj, .int vxk, .ref axi, .ref axu, .long r1.1, .long r1.2, .long vxC, .long vxE])), (axr, .inl (cy, 8, .inl fxr)), (axb, .inl (cy, 8, .inl fxb)), (axj, .inl (cy, 6, .inl fxj)), (axi, .inl (cy, 8, .inl fxi))]) hP hD [0, 3] [1, 2, 4] rfl rfl (by decide) (by decide) hk1 hFc hB ht [3, 0, 1, 4, 2] rfl (by decide) rfl
      clear hFc hB hk1 hz1 hvm
      refine lv_aload_n hx hb dX5_findPass_33 rfl (lv_at hl 0 rfl) ?_
      obtain ⟨r2, hr2, h⟩ := bd_some h
      have hFc := va_free (wc := [(ax, .inr (5, [.int vxn, .ref axr, .ref axb, .ref axj, .int vxk, .ref axi, .ref axu, .long r1.1, .long r1.2, .long vxC, .long vxE]))]) hD hS hA [0] rfl
      refine va_callv (va_runV (As := []) (rest := []) ⟨hx, hb, hml, hown, hts⟩ (c_X5_reduce l dC dI cy ax axr axb axj axi axu H.size vxn vxk r1.1 r1.2 vxC vxE  r2 hr2) (cwV 0 hts gX5_findPass_X5_reduce rfl rfl rfl (by decide +kernel) ⟨Nat.le_of_ble_eq_true rfl, Nat.le_of_ble_eq_true rfl⟩) ⟨PW_fb, va_recv hK hP (ci := 5) (q0 := 0) rfl rfl, PW_pre (hP.sub (ws' := [(ax, .inr (5, [.int vxn, .ref axr, .ref axb, .ref axj, .int vxk, .ref axi, .ref axu, .long r1.1, .long r1.2, .long vxC, .long vxE]))]) [0] rfl) hK (hD.sub [0] (by decide) rfl) hN⟩ rfl rfl hl.1 rfl (lv_room (Nat.le_of_ble_eq_true rfl)) dX5_findPass_34 ⟨Nat.zero_le _, Nat.zero_le _⟩) hS (fun q _ h => hFc q h) hFc (fun u t H locs ht hvm hw hB hz1 hk1 hS => ?_)
      obtain ⟨hP, hD⟩ := jn (wr := [(axr, .inl (cy, 8, .inl fxr)), (axb, .inl (cy, 8, .inl fxb)), (axj, .inl (cy, 6, .inl fxj)), (axi, .inl (cy, 8, .inl fxi))]) (w1 := [(ax, .inr (5, [.int vxn, .ref axr, .ref axb, .ref axj, .int vxk, .ref axi, .ref axu, .long r2.1, .long r2.2, .long vxC, .long vxE]))]) (ws' := [(ax, .inr (5, [.int vxn, .ref axr, .ref axb, .ref axj, .int vxk, .ref axi, .ref axu, .long r2.1, .long r2.2, .long vxC, .long vxE])), (axr, .inl (cy, 8, .inl fxr)), (axb, .inl (cy, 8, .inl fxb)), (axj, .inl (cy, 6, .inl fxj)), (axi, .inl (cy, 8, .inl fxi))]) hP hD [0] [1, 2, 3, 4] rfl rfl (by decide) (by decide) hk1 hFc hB ht [4, 0, 1, 2, 3] rfl (by decide) rfl
      clear hFc hB hk1 hz1 hvm
      have h0 := Option.some.inj h
      subst h0
      exact W.vret hx hb hr (fun t ht hW => ⟨⟨(), rfl, trivial, QW_mk hP hK hD ht hW⟩, hS.F ht⟩) hS.2.2 dX5_findPass_37
    · rw [if_pos c5] at h
      refine lv_aload_n hx hb dX5_findPass_22 rfl (lv_at hl 0 rfl) ?_
      obtain ⟨r3, hr3, h⟩ := bd_some h
      have hFc := va_free (wc := [(ax, .inr (5, [.int vxn, .ref axr, .ref axb, .ref axj, .int vxk, .ref axi, .ref axu, .long vxA, .long vxB, .long vxC, .long vxE])), (axb, .inl (cy, 8, .inl fxb))]) hD hS hA [0, 2] rfl
      refine va_callv (va_runV (As := []) (rest := []) ⟨hx, hb, hml, hown, hts⟩ (c_X5_countTable l dC dI cy ax axr axb axj axi axu H.size vxn vxk vxA vxB vxC vxE fxb  r3 hr3) (cwV 0 hts gX5_findPass_X5_countTable rfl rfl rfl (by decide +kernel) ⟨Nat.le_of_ble_eq_true rfl, Nat.le_of_ble_eq_true rfl⟩) ⟨PW_fb, va_recv hK hP (ci := 5) (q0 := 0) rfl rfl, PW_pre (hP.sub (ws' := [(ax, .inr (5, [.int vxn, .ref axr, .ref axb, .ref axj, .int vxk, .ref axi, .ref axu, .long vxA, .long vxB, .long vxC, .long vxE])), (axb, .inl (cy, 8, .inl fxb))]) [0, 2] rfl) hK (hD.sub [0, 2] (by decide) rfl) hN⟩ rfl rfl hl.1 rfl (lv_room (Nat.le_of_ble_eq_true rfl)) dX5_findPass_23 ⟨Nat.zero_le _, Nat.zero_le _⟩) hS (fun q _ h => hFc q h) hFc (fun u t H locs ht hvm hw hB hz1 hk1 hS => ?_)
      obtain ⟨hP, hD⟩ := jn (wr := [(axr, .inl (cy, 8, .inl fxr)), (axj, .inl (cy, 6, .inl fxj)), (axi, .inl (cy, 8, .inl fxi))]) (w1 := [(ax, .inr (5, [.int vxn, .ref axr, .ref axb, .ref axj, .int vxk, .ref axi, .ref axu, .long r3.1, .long r3.2, .long vxC, .long vxE])), (axb, .inl (cy, 8, .inl fxb))]) (ws' := [(ax, .inr (5, [.int vxn, .ref axr, .ref axb, .ref axj, .int vxk, .ref axi, .ref axu, .long r3.1, .long r3.2, .long vxC, .long vxE])), (axr, .inl (cy, 8, .inl fxr)), (axb, .inl (cy, 8, .inl fxb)), (axj, .inl (cy, 6, .inl fxj)), (axi, .inl (cy, 8, .inl fxi))]) hP hD [0, 2] [1, 3, 4] rfl rfl (by decide) (by decide) hk1 hFc hB ht [3, 0, 4, 1, 2] rfl (by decide) rfl
      clear hFc hB hk1 hz1 hvm
      refine lv_goto (tgt := 33) hx hb dX5_findPass_26 (by decide) ?_
      refine lv_aload_n hx hb dX5_findPass_33 rfl (lv_at hl 0 rfl) ?_
      obtain ⟨r4, hr4, h⟩ := bd_some h
      have hFc := va_free (wc := [(ax, .inr (5, [.int vxn, .ref axr, .ref axb, .ref axj, .int vxk, .ref axi, .ref axu, .long r3.1, .long r3.2, .long vxC, .long vxE]))]) hD hS hA [0] rfl
      refine va_callv (va_runV (As := []) (rest := []) ⟨hx, hb, hml, hown, hts⟩ (c_X5_reduce l dC dI cy ax axr axb axj axi axu H.size vxn vxk r3.1 r3.2 vxC vxE  r4 hr4) (cwV 0 hts gX5_findPass_X5_reduce rfl rfl rfl (by decide +kernel) ⟨Nat.le_of_ble_eq_true rfl, Nat.le_of_ble_eq_true rfl⟩) ⟨PW_fb, va_recv hK hP (ci := 5) (q0 := 0) rfl rfl, PW_pre (hP.sub (ws' := [(ax, .inr (5, [.int vxn, .ref axr, .ref axb, .ref axj, .int vxk, .ref axi, .ref axu, .long r3.1, .long r3.2, .long vxC, .long vxE]))]) [0] rfl) hK (hD.sub [0] (by decide) rfl) hN⟩ rfl rfl hl.1 rfl (lv_room (Nat.le_of_ble_eq_true rfl)) dX5_findPass_34 ⟨Nat.zero_le _, Nat.zero_le _⟩) hS (fun q _ h => hFc q h) hFc (fun u t H locs ht hvm hw hB hz1 hk1 hS => ?_)
      obtain ⟨hP, hD⟩ := jn (wr := [(axr, .inl (cy, 8, .inl fxr)), (axb, .inl (cy, 8, .inl fxb)), (axj, .inl (cy, 6, .inl fxj)), (axi, .inl (cy, 8, .inl fxi))]) (w1 := [(ax, .inr (5, [.int vxn, .ref axr, .ref axb, .ref axj, .int vxk, .ref axi, .ref axu, .long r4.1, .long r4.2, .long vxC, .long vxE]))]) (ws' := [(ax, .inr (5, [.int vxn, .ref axr, .ref axb, .ref axj, .int vxk, .ref axi, .ref axu, .long r4.1, .long r4.2, .long vxC, .long vxE])), (axr, .inl (cy, 8, .inl fxr)), (axb, .inl (cy, 8, .inl fxb)), (axj, .inl (cy, 6, .inl fxj)), (axi, .inl (cy, 8, .inl fxi))]) hP hD [0] [1, 2, 3, 4] rfl rfl (by decide) (by decide) hk1 hFc hB ht [4, 0, 1, 2, 3] rfl (by decide) rfl
      clear hFc hB hk1 hz1 hvm
      have h0 := Option.some.inj h
      subst h0
      exact W.vret hx hb hr (fun t ht hW => ⟨⟨(), rfl, trivial, QW_mk hP hK hD ht hW⟩, hS.F ht⟩) hS.2.2 dX5_findPass_37
  · rw [if_neg c9] at h
    refine lv_aload_n hx hb dX5_findPass_5 rfl (lv_at hl 0 rfl) ?_
    obtain ⟨r6, hr6, h⟩ := bd_some h
    have hFc := va_free (wc := [(ax, .inr (5, [.int vxn, .ref axr, .ref axb, .ref axj, .int vxk, .ref axi, .ref axu, .long vxA, .long vxB, .long vxC, .long vxE])), (axr, .inl (cy, 8, .inl fxr)), (axi, .inl (cy, 8, .inl fxi))]) hD hS hA [0, 1, 4] rfl
    refine va_callv (va_runV (As := []) (rest := []) ⟨hx, hb, hml, hown, hts⟩ (c_X5_takeRow l dC dI cy ax axr axb axj axi axu H.size vxn vxk vxA vxB vxC vxE fxr fxi  r6 hr6) (cwV 0 hts gX5_findPass_X5_takeRow rfl rfl rfl (by decide +kernel) ⟨Nat.le_of_ble_eq_true rfl, Nat.le_of_ble_eq_true rfl⟩) ⟨PW_fb, va_recv hK hP (ci := 5) (q0 := 0) rfl rfl, PW_pre (hP.sub (ws' := [(ax, .inr (5, [.int vxn, .ref axr, .ref axb, .ref axj, .int vxk, .ref axi, .ref axu, .long vxA, .long vxB, .long vxC, .long vxE])), (axr, .inl (cy, 8, .inl fxr)), (axi, .inl (cy, 8, .inl fxi))]) [0, 1, 4] rfl) hK (hD.sub [0, 1, 4] (by decide) rfl) hN⟩ rfl rfl hl.1 rfl (lv_room (Nat.le_of_ble_eq_true rfl)) dX5_findPass_6 ⟨Nat.zero_le _, Nat.zero_le _⟩) hS (fun q _ h => hFc q h) hFc (fun u t H locs ht hvm hw hB hz1 hk1 hS => ?_)
    obtain ⟨hP, hD⟩ := jn (wr := [(axb, .inl (cy, 8, .inl fxb)), (axj, .inl (cy, 6, .inl fxj))]) (w1 := [(ax, .inr (5, [.int vxn, .ref axr, .ref axb, .ref axj, .int vxk, .ref axi, .ref axu, .long vxA, .long vxB, .long vxC, .long vxE])), (axr, .inl (cy, 8, .inl fxr)), (axi, .inl (cy, 8, .inl r6))]) (ws' := [(ax, .inr (5, [.int vxn, .ref axr, .ref axb, .ref axj, .int vxk, .ref axi, .ref axu, .long vxA, .long vxB, .long vxC, .long vxE])), (axr, .inl (cy, 8, .inl fxr)), (axb, .inl (cy, 8, .inl fxb)), (axj, .inl (cy, 6, .inl fxj)), (axi, .inl (cy, 8, .inl r6))]) hP hD [0, 1, 4] [2, 3] rfl rfl (by decide) (by decide) hk1 hFc hB ht [2, 3, 0, 1, 4] rfl (by decide) rfl
    clear hFc hB hk1 hz1 hvm
    refine lv_aload_n hx hb dX5_findPass_9 rfl (lv_at hl 0 rfl) ?_
    refine lv_iload_n hx hb dX5_findPass_10 rfl (lv_at hl 1 rfl) ?_
    obtain ⟨r7, hr7, h⟩ := bd_some h
    have hFc := va_free (wc := [(ax, .inr (5, [.int vxn, .ref axr, .ref axb, .ref axj, .int vxk, .ref axi, .ref axu, .long vxA, .long vxB, .long vxC, .long vxE])), (axi, .inl (cy, 8, .inl r6))]) hD hS hA [0, 4] rfl
    refine va_callv (va_runV (As := [.int p0]) (rest := []) ⟨hx, hb, hml, hown, hts⟩ (c_X5_countRow l dC dI cy ax axr axb axj axi axu H.size vxn vxk vxA vxB vxC vxE r6 p0 r7 hr7) (cwV 1 hts gX5_findPass_X5_countRow rfl rfl rfl (by decide +kernel) ⟨Nat.le_of_ble_eq_true rfl, Nat.le_of_ble_eq_true rfl⟩) ⟨PW_fb, va_recv hK hP (ci := 5) (q0 := 0) rfl rfl, PW_pre (hP.sub (ws' := [(ax, .inr (5, [.int vxn, .ref axr, .ref axb, .ref axj, .int vxk, .ref axi, .ref axu, .long vxA, .long vxB, .long vxC, .long vxE])), (axi, .inl (cy, 8, .inl r6))]) [0, 4] rfl) hK (hD.sub [0, 4] (by decide) rfl) hN⟩ rfl rfl hl.1 rfl (lv_room (Nat.le_of_ble_eq_true rfl)) dX5_findPass_11 ⟨Nat.zero_le _, Nat.zero_le _⟩) hS (fun q _ h => hFc q h) hFc (fun u t H locs ht hvm hw hB hz1 hk1 hS => ?_)
    obtain ⟨hP, hD⟩ := jn (wr := [(axr, .inl (cy, 8, .inl fxr)), (axb, .inl (cy, 8, .inl fxb)), (axj, .inl (cy, 6, .inl fxj))]) (w1 := [(ax, .inr (5, [.int vxn, .ref axr, .ref axb, .ref axj, .int vxk, .ref axi, .ref axu, .long r7.1, .long r7.2, .long vxC, .long vxE])), (axi, .inl (cy, 8, .inl r6))]) (ws' := [(ax, .inr (5, [.int vxn, .ref axr, .ref axb, .ref axj, .int vxk, .ref axi, .ref axu, .long r7.1, .long r7.2, .long vxC, .long vxE])), (axr, .inl (cy, 8, .inl fxr)), (axb, .inl (cy, 8, .inl fxb)), (axj, .inl (cy, 6, .inl fxj)), (axi, .inl (cy, 8, .inl r6))]) hP hD [0, 4] [1, 2, 3] rfl rfl (by decide) (by decide) hk1 hFc hB ht [3, 0, 1, 2, 4] rfl (by decide) rfl
    clear hFc hB hk1 hz1 hvm
    refine lv_goto (tgt := 33) hx hb dX5_findPass_14 (by decide) ?_
    refine lv_aload_n hx hb dX5_findPass_33 rfl (lv_at hl 0 rfl) ?_
    obtain ⟨r8, hr8, h⟩ := bd_some h
    have hFc := va_free (wc := [(ax, .inr (5, [.int vxn, .ref axr, .ref axb, .ref axj, .int vxk, .ref axi, .ref axu, .long r7.1, .long r7.2, .long vxC, .long vxE]))]) hD hS hA [0] rfl
    refine va_callv (va_runV (As := []) (rest := []) ⟨hx, hb, hml, hown, hts⟩ (c_X5_reduce l dC dI cy ax axr axb axj axi axu H.size vxn vxk r7.1 r7.2 vxC vxE  r8 hr8) (cwV 0 hts gX5_findPass_X5_reduce rfl rfl rfl (by decide +kernel) ⟨Nat.le_of_ble_eq_true rfl, Nat.le_of_ble_eq_true rfl⟩) ⟨PW_fb, va_recv hK hP (ci := 5) (q0 := 0) rfl rfl, PW_pre (hP.sub (ws' := [(ax, .inr (5, [.int vxn, .ref axr, .ref axb, .ref axj, .int vxk, .ref axi, .ref axu, .long r7.1, .long r7.2, .long vxC, .long vxE]))]) [0] rfl) hK (hD.sub [0] (by decide) rfl) hN⟩ rfl rfl hl.1 rfl (lv_room (Nat.le_of_ble_eq_true rfl)) dX5_findPass_34 ⟨Nat.zero_le _, Nat.zero_le _⟩) hS (fun q _ h => hFc q h) hFc (fun u t H locs ht hvm hw hB hz1 hk1 hS => ?_)
    obtain ⟨hP, hD⟩ := jn (wr := [(axr, .inl (cy, 8, .inl fxr)), (axb, .inl (cy, 8, .inl fxb)), (axj, .inl (cy, 6, .inl fxj)), (axi, .inl (cy, 8, .inl r6))]) (w1 := [(ax, .inr (5, [.int vxn, .ref axr, .ref axb, .ref axj, .int vxk, .ref axi, .ref axu, .long r8.1, .long r8.2, .long vxC, .long vxE]))]) (ws' := [(ax, .inr (5, [.int vxn, .ref axr, .ref axb, .ref axj, .int vxk, .ref axi, .ref axu, .long r8.1, .long r8.2, .long vxC, .long vxE])), (axr, .inl (cy, 8, .inl fxr)), (axb, .inl (cy, 8, .inl fxb)), (axj, .inl (cy, 6, .inl fxj)), (axi, .inl (cy, 8, .inl r6))]) hP hD [0] [1, 2, 3, 4] rfl rfl (by decide) (by decide) hk1 hFc hB ht [4, 0, 1, 2, 3] rfl (by decide) rfl
    clear hFc hB hk1 hz1 hvm
    have h0 := Option.some.inj h
    subst h0
    exact W.vret hx hb hr (fun t ht hW => ⟨⟨(), rfl, trivial, QW_mk hP hK hD ht hW⟩, hS.F ht⟩) hS.2.2 dX5_findPass_37

noncomputable def fX5_pass (vxn : Int32) (vxk : Int32) (vxA : Int64) (vxB : Int64) (fxr : Nat → Int32) (fxb : Nat → Int32) (fxj : Nat → Int32) (fxi : Nat → Int32) (p0 : Int32) (p1 : Int32) : Option (Int64 × Int64 × Int64 × (Nat → Int32)) := bd (fX5_isSubject p0) fun r1 => if r1 = 0 then (some ((-2 : Int64), vxA, vxB, fxi)) else (bd (fX5_isBit p1) fun r2 => if r2 = 0 then (some ((-2 : Int64), vxA, vxB, fxi)) else (bd (fX5_findPass vxn vxk vxA vxB fxr fxb fxj fxi p0) fun r3 => if p1 = 0 then (some (r3.1, r3.1, r3.2.1, r3.2.2)) else (some (r3.2.1, r3.1, r3.2.1, r3.2.2))))
set_option maxHeartbeats 4000000 in
set_option maxRecDepth 100000 in
theorem c_X5_pass (l : Launch) (dC : Nat → ClassId) (dI : Nat → Nat → Nat) (cy : ClassId) (ax axr axb axj axi axu : Nat) (sz : Nat) (vxn : Int32) (vxk : Int32) (vxA : Int64) (vxB : Int64) (vxC : Int64) (vxE : Int64) (fxr : Nat → Int32) (fxb : Nat → Int32) (fxj : Nat → Int32) (fxi : Nat → Int32) (p0 : Int32) (p1 : Int32) (res : Int64 × Int64 × Int64 × (Nat → Int32)) (h : fX5_pass vxn vxk vxA vxB fxr fxb fxj fxi p0 p1 = some res) : Met l yX5_pass wsX5_pass ({ frames := 5, cells := 0, slots := 0, locals := 112 }) (va_Pc [.ref ax, .int p0, .int p1] (PW (dC, dI) cy sz [(ax, .inr (5, [.int vxn, .ref axr, .ref axb, .ref axj, .int vxk, .ref axi, .ref axu, .long vxA, .long vxB, .long vxC, .long vxE])), (axr, .inl (cy, 8, .inl fxr)), (axb, .inl (cy, 8, .inl fxb)), (axj, .inl (cy, 6, .inl fxj)), (axi, .inl (cy, 8, .inl fxi))])) (va_Ql (fun (r : Int64) (_ : Unit) => r = res.1) (QW (dC, dI) cy (va_A [(ax, .inr (5, [.int vxn, .ref axr, .ref axb, .ref axj, .int vxk, .ref axi, .ref axu, .long vxA, .long vxB, .long vxC, .long vxE])), (axr, .inl (cy, 8, .inl fxr)), (axb, .inl (cy, 8, .inl fxb)), (axj, .inl (cy, 6, .inl fxj)), (axi, .inl (cy, 8, .inl fxi))] sz) [(ax, .inr (5, [.int vxn, .ref axr, .ref axb, .ref axj, .int vxk, .ref axi, .ref axu, .long res.2.1, .long res.2.2.1, .long vxC, .long vxE])), (axr, .inl (cy, 8, .inl fxr)), (axb, .inl (cy, 8, .inl fxb)), (axj, .inl (cy, 6, .inl fxj)), (axi, .inl (cy, 8, .inl res.2.2.2))]) (va_A [(ax, .inr (5, [.int vxn, .ref axr, .ref axb, .ref axj, .int vxk, .ref axi, .ref axu, .long vxA, .long vxB, .long vxC, .long vxE])), (axr, .inl (cy, 8, .inl fxr)), (axb, .inl (cy, 8, .inl fxb)), (axj, .inl (cy, 6, .inl fxj)), (axi, .inl (cy, 8, .inl fxi))] sz)) 0 0 (va_A [(ax, .inr (5, [.int vxn, .ref axr, .ref axb, .ref axj, .int vxk, .ref axi, .ref axu, .long vxA, .long vxB, .long vxC, .long vxE])), (axr, .inl (cy, 8, .inl fxr)), (axb, .inl (cy, 8, .inl fxb)), (axj, .inl (cy, 6, .inl fxj)), (axi, .inl (cy, 8, .inl fxi))] sz) := by
  refine Met.ofW (cc := cX5_pass) (maxL := 3) (ret := (some .long)) (by decide) rfl ?_
  intro p e s m args below meth c s₁ B hml hv
  obtain ⟨rfl, hsz, hP, hK, hD0, hN⟩ := hv
  have hx := B.exec
  have hb := B.bytes
  have hr := B.returns
  have hts := atoms_spec (ws := wsX5_pass) B.pre
  have hown : s.vm.findClass RX5 = some m.cls := findClass_of_methodNamed B.named
  have hlocks := B.notSynchronized
  subst hsz
  have hD := hD0.self (sz := s.heap.size)
  clear hD0
  generalize hAe : va_A [(ax, .inr (5, [.int vxn, .ref axr, .ref axb, .ref axj, .int vxk, .ref axi, .ref axu, .long vxA, .long vxB, .long vxC, .long vxE])), (axr, .inl (cy, 8, .inl fxr)), (axb, .inl (cy, 8, .inl fxb)), (axj, .inl (cy, 6, .inl fxj)), (axi, .inl (cy, 8, .inl fxi))] s.heap.size = A at hD ⊢
  have hA : ∀ q : Nat, s.heap.size ≤ q → A q := fun q h => by rw [← hAe]; exact Or.inr h
  have hS : va_S A s.heap s.heap [] := va_S.rf
  have hl := lv_entry ([.ref ax, .int p0, .int p1]) (n := 3) (Nat.le_of_ble_eq_true rfl)
  rw [lg_entry_eq]
  generalize (lg_sl ([.ref ax, .int p0, .int p1]) ++ List.replicate (3 - (lg_sl ([.ref ax, .int p0, .int p1])).length) Slot.unset).toArray = ls at hl ⊢
  replace hl : lv_has ls 3 [(0, .ref ax), (1, .int p0), (2, .int p1)] := hl
  replace hP : va_P (dC, dI) vwCl [(ax, .inr (5, [.int vxn, .ref axr, .ref axb, .ref axj, .int vxk, .ref axi, .ref axu, .long vxA, .long vxB, .long vxC, .long vxE])), (axr, .inl (cy, 8, .inl fxr)), (axb, .inl (cy, 8, .inl fxb)), (axj, .inl (cy, 6, .inl fxj)), (axi, .inl (cy, 8, .inl fxi))] s.heap := hP
  obtain ⟨locs, hlocs⟩ : ∃ lc : List Loc, lc = [] := ⟨_, rfl⟩
  rw [← hlocs] at hS ⊢
  obtain ⟨H, hH⟩ : ∃ H : Heap, H = s.heap := ⟨_, rfl⟩
  have hP2 := hP; rw [← hH] at hP2
  have hS2 : va_S A s.heap H locs := by rw [hH]; exact hS
  suffices hgo : W p l e (headSpec wsX5_pass ({ frames := 5, cells := 0, slots := 0, locals := 112 })).room s m (([.ref ax, .int p0, .int p1] : List Value).toArray) below meth c H locs 0 0 (MQ below (va_Ql (fun (r : Int64) (_ : Unit) => r = res.1) (QW (dC, dI) cy A [(ax, .inr (5, [.int vxn, .ref axr, .ref axb, .ref axj, .int vxk, .ref axi, .ref axu, .long res.2.1, .long res.2.2.1, .long vxC, .long vxE])), (axr, .inl (cy, 8, .inl fxr)), (axb, .inl (cy, 8, .inl fxb)), (axj, .inl (cy, 6, .inl fxj)), (axi, .inl (cy, 8, .inl res.2.2.2))]) A) (([.ref ax, .int p0, .int p1] : List Value).toArray) s 0 0 A) (F0 m 0 ls []) by rw [hH] at hgo; exact hgo
  replace hP := hP2
  replace hS := hS2
  clear hP2 hS2
  have hin_X5 : ∀ w ∈ wsX50, w ∈ wsX5_pass := by decide +kernel
  have hf_107 := hts (.fieldLink RX5 107 "FewLooksModel" "above" "J") (by decide +kernel)
  have hf_111 := hts (.fieldLink RX5 111 "FewLooksModel" "below" "J") (by decide +kernel)
  unfold fX5_pass at h
  refine lv_iload_n hx hb dX5_pass_0 rfl (lv_at hl 1 rfl) ?_
  obtain ⟨r1, hr1, h⟩ := bd_some h
  have hFc := va_free (wc := []) hD hS hA [] rfl
  refine va_calli (va_runS (As := [.int p0]) (rest := []) ⟨hx, hb, hml, hown, hts⟩ (c_X5_isSubject l dC dI cy  H.size  p0 r1 hr1) (va_cwS 1 hts gX5_pass_X5_isSubject rfl rfl rfl (by decide +kernel) ⟨Nat.le_of_ble_eq_true rfl, Nat.le_of_ble_eq_true rfl⟩) ⟨PW_fb, PW_pre (hP.sub (ws' := []) [] rfl) hK (hD.sub [] (by decide) rfl) hN⟩ rfl rfl hl.1 rfl (lv_room (Nat.le_of_ble_eq_true rfl)) dX5_pass_1 ⟨Nat.zero_le _, Nat.zero_le _⟩) hS (fun q _ h => hFc q h) hFc (fun rz u t H locs ht hvm hw hB hz1 hk1 hS => ?_)
  obtain ⟨hP, hD⟩ := jn (wr := [(ax, .inr (5, [.int vxn, .ref axr, .ref axb, .ref axj, .int vxk, .ref axi, .ref axu, .long vxA, .long vxB, .long vxC, .long vxE])), (axr, .inl (cy, 8, .inl fxr)), (axb, .inl (cy, 8, .inl fxb)), (axj, .inl (cy, 6, .inl fxj)), (axi, .inl (cy, 8, .inl fxi))]) (w1 := []) (ws' := [(ax, .inr (5, [.int vxn, .ref axr, .ref axb, .ref axj, .int vxk, .ref axi, .ref axu, .long vxA, .long vxB, .long vxC, .long vxE])), (axr, .inl (cy, 8, .inl fxr)), (axb, .inl (cy, 8, .inl fxb)), (axj, .inl (cy, 6, .inl fxj)), (axi, .inl (cy, 8, .inl fxi))]) hP hD [] [0, 1, 2, 3, 4] rfl rfl (by decide) (by decide) hk1 hFc hB ht [0, 1, 2, 3, 4] rfl (by decide) rfl
  obtain ⟨hw, br1⟩ := hw
  replace hw := hw.symm
  subst hw
  clear hFc hB hk1 hz1 hvm
  refine lv_if_eq (tgt := 14) hx hb dX5_pass_4 (by decide) (fun c6 => ?_) (fun c6 => ?_)
  · rw [if_pos c6] at h
    refine lv_ldc2 (v := (-2 : Int64)) hx hb hown (hts (.constantLong RX5 134 (-2)) (by decide +kernel)) dX5_pass_14 ?_
    have h0 := Option.some.inj h
    subst h0
    exact W.lret hx hb hr (fun t ht hW => ⟨⟨_, (), rfl, rfl, QW_mk hP hK hD ht hW⟩, hS.F ht⟩) hS.2.2 dX5_pass_17
  · rw [if_neg c6] at h
    refine lv_iload_n hx hb dX5_pass_7 rfl (lv_at hl 2 rfl) ?_
    obtain ⟨r2, hr2, h⟩ := bd_some h
    have hFc := va_free (wc := []) hD hS hA [] rfl
    refine va_calli (va_runS (As := [.int p1]) (rest := []) ⟨hx, hb, hml, hown, hts⟩ (c_X5_isBit l dC dI cy  H.size  p1 r2 hr2) (va_cwS 1 hts gX5_pass_X5_isBit rfl rfl rfl (by decide +kernel) ⟨Nat.le_of_ble_eq_true rfl, Nat.le_of_ble_eq_true rfl⟩) ⟨PW_fb, PW_pre (hP.sub (ws' := []) [] rfl) hK (hD.sub [] (by decide) rfl) hN⟩ rfl rfl hl.1 rfl (lv_room (Nat.le_of_ble_eq_true rfl)) dX5_pass_8 ⟨Nat.zero_le _, Nat.zero_le _⟩) hS (fun q _ h => hFc q h) hFc (fun rz u t H locs ht hvm hw hB hz1 hk1 hS => ?_)
    obtain ⟨hP, hD⟩ := jn (wr := [(ax, .inr (5, [.int vxn, .ref axr, .ref axb, .ref axj, .int vxk, .ref axi, .ref axu, .long vxA, .long vxB, .long vxC, .long vxE])), (axr, .inl (cy, 8, .inl fxr)), (axb, .inl (cy, 8, .inl fxb)), (axj, .inl (cy, 6, .inl fxj)), (axi, .inl (cy, 8, .inl fxi))]) (w1 := []) (ws' := [(ax, .inr (5, [.int vxn, .ref axr, .ref axb, .ref axj, .int vxk, .ref axi, .ref axu, .long vxA, .long vxB, .long vxC, .long vxE])), (axr, .inl (cy, 8, .inl fxr)), (axb, .inl (cy, 8, .inl fxb)), (axj, .inl (cy, 6, .inl fxj)), (axi, .inl (cy, 8, .inl fxi))]) hP hD [] [0, 1, 2, 3, 4] rfl rfl (by decide) (by decide) hk1 hFc hB ht [0, 1, 2, 3, 4] rfl (by decide) rfl
    obtain ⟨hw, br2⟩ := hw
    replace hw := hw.symm
    subst hw
    clear hFc hB hk1 hz1 hvm
    refine lv_if_ne (tgt := 18) hx hb dX5_pass_11 (by decide) (fun c5 => ?_) (fun c5 => ?_)
    · rw [if_neg c5] at h
      refine lv_aload_n hx hb dX5_pass_18 rfl (lv_at hl 0 rfl) ?_
      refine lv_iload_n hx hb dX5_pass_19 rfl (lv_at hl 1 rfl) ?_
      obtain ⟨r3, hr3, h⟩ := bd_some h
      have hFc := va_free (wc := [(ax, .inr (5, [.int vxn, .ref axr, .ref axb, .ref axj, .int vxk, .ref axi, .ref axu, .long vxA, .long vxB, .long vxC, .long vxE])), (axr, .inl (cy, 8, .inl fxr)), (axb, .inl (cy, 8, .inl fxb)), (axj, .inl (cy, 6, .inl fxj)), (axi, .inl (cy, 8, .inl fxi))]) hD hS hA [0, 1, 2, 3, 4] rfl
      refine va_callv (va_runV (As := [.int p0]) (rest := []) ⟨hx, hb, hml, hown, hts⟩ (c_X5_findPass l dC dI cy ax axr axb axj axi axu H.size vxn vxk vxA vxB vxC vxE fxr fxb fxj fxi p0 r3 hr3) (cwV 1 hts gX5_pass_X5_findPass rfl rfl rfl (by decide +kernel) ⟨Nat.le_of_ble_eq_true rfl, Nat.le_of_ble_eq_true rfl⟩) ⟨PW_fb, va_recv hK hP (ci := 5) (q0 := 0) rfl rfl, PW_pre (hP.sub (ws' := [(ax, .inr (5, [.int vxn, .ref axr, .ref axb, .ref axj, .int vxk, .ref axi, .ref axu, .long vxA, .long vxB, .long vxC, .long vxE])), (axr, .inl (cy, 8, .inl fxr)), (axb, .inl (cy, 8, .inl fxb)), (axj, .inl (cy, 6, .inl fxj)), (axi, .inl (cy, 8, .inl fxi))]) [0, 1, 2, 3, 4] rfl) hK (hD.sub [0, 1, 2, 3, 4] (by decide) rfl) hN⟩ rfl rfl hl.1 rfl (lv_room (Nat.le_of_ble_eq_true rfl)) dX5_pass_20 ⟨Nat.zero_le _, Nat.zero_le _⟩) hS (fun q _ h => hFc q h) hFc (fun u t H locs ht hvm hw hB hz1 hk1 hS => ?_)
      obtain ⟨hP, hD⟩ := jn (wr := []) (w1 := [(ax, .inr (5, [.int vxn, .ref axr, .ref axb, .ref axj, .int vxk, .ref axi, .ref axu, .long r3.1, .long r3.2.1, .long vxC, .long vxE])), (axr, .inl (cy, 8, .inl fxr)), (axb, .inl (cy, 8, .inl fxb)), (axj, .inl (cy, 6, .inl fxj)), (axi, .inl (cy, 8, .inl r3.2.2))]) (ws' := [(ax, .inr (5, [.int vxn, .ref axr, .ref axb, .ref axj, .int vxk, .ref axi, .ref axu, .long r3.1, .long r3.2.1, .long vxC, .long vxE])), (axr, .inl (cy, 8, .inl fxr)), (axb, .inl (cy, 8, .inl fxb)), (axj, .inl (cy, 6, .inl fxj)), (axi, .inl (cy, 8, .inl r3.2.2))]) hP hD [0, 1, 2, 3, 4] [] rfl rfl (by decide) (by decide) hk1 hFc hB ht [0, 1, 2, 3, 4] rfl (by decide) rfl
      clear hFc hB hk1 hz1 hvm
      refine lv_iload_n hx hb dX5_pass_23 rfl (lv_at hl 2 rfl) ?_
      refine lv_if_ne (tgt := 34) hx hb dX5_pass_24 (by decide) (fun c4 => ?_) (fun c4 => ?_)
      · rw [if_neg c4] at h
        refine lv_aload_n hx hb dX5_pass_34 rfl (lv_at hl 0 rfl) ?_
        refine va_get (D := (dC, dI)) (ci := 5) (v := .long r3.2.1) (C := RX5) (T := TX5) (N := 11) hx hb hts hin_X5 hown hK hP 0 rfl rfl 8 (by decide) (hf_111) (fun _ h9 => h9) rfl dX5_pass_35 ?_
        have h0 := Option.some.inj h
        subst h0
        exact W.lret hx hb hr (fun t ht hW => ⟨⟨_, (), rfl, rfl, QW_mk hP hK hD ht hW⟩, hS.F ht⟩) hS.2.2 dX5_pass_38
      · rw [if_pos c4] at h
        refine lv_aload_n hx hb dX5_pass_27 rfl (lv_at hl 0 rfl) ?_
        refine va_get (D := (dC, dI)) (ci := 5) (v := .long r3.1) (C := RX5) (T := TX5) (N := 11) hx hb hts hin_X5 hown hK hP 0 rfl rfl 7 (by decide) (hf_107) (fun _ h9 => h9) rfl dX5_pass_28 ?_
        refine lv_goto (tgt := 38) hx hb dX5_pass_31 (by decide) ?_
        have h0 := Option.some.inj h
        subst h0
        exact W.lret hx hb hr (fun t ht hW => ⟨⟨_, (), rfl, rfl, QW_mk hP hK hD ht hW⟩, hS.F ht⟩) hS.2.2 dX5_pass_38
    · rw [if_pos c5] at h
      refine lv_ldc2 (v := (-2 : Int64)) hx hb hown (hts (.constantLong RX5 134 (-2)) (by decide +kernel)) dX5_pass_14 ?_
      have h0 := Option.some.inj h
      subst h0
      exact W.lret hx hb hr (fun t ht hW => ⟨⟨_, (), rfl, rfl, QW_mk hP hK hD ht hW⟩, hS.F ht⟩) hS.2.2 dX5_pass_17

noncomputable def fX5_repeats_L43 (n : Nat) (l2 : Int32) (l3 : Int32) (l4 : Int64) (l6 : Int64) (l8 : Int32) (vxA : Int64) (vxB : Int64) (fxi : Nat → Int32) : Option ((Int32 × Int64 × Int64 × (Nat → Int32)) ⊕ (Int64 × Int64 × Int32)) := match n with
  | 0 => none
  | n + 1 => if (9 : Int32) < l8 then (some (.inr (l4, l6, l8))) else (if (lg_cmp (l3.toInt64 * ((l6 * vxB) - (l4 * vxA))) (l2.toInt64 * (l6 * vxB))) < 0 then (fX5_repeats_L43 n l2 l3 (l4 * vxA) (l6 * vxB) (l8 + (1 : Int32)) vxA vxB fxi) else (some (.inl (l8, vxA, vxB, fxi))))
theorem fX5_repeats_L43_0 (l2 : Int32) (l3 : Int32) (l4 : Int64) (l6 : Int64) (l8 : Int32) (vxA : Int64) (vxB : Int64) (fxi : Nat → Int32) : fX5_repeats_L43 0 l2 l3 l4 l6 l8 vxA vxB fxi = none := rfl
theorem fX5_repeats_L43_s (n : Nat) (l2 : Int32) (l3 : Int32) (l4 : Int64) (l6 : Int64) (l8 : Int32) (vxA : Int64) (vxB : Int64) (fxi : Nat → Int32) : fX5_repeats_L43 (n + 1) l2 l3 l4 l6 l8 vxA vxB fxi = if (9 : Int32) < l8 then (some (.inr (l4, l6, l8))) else (if (lg_cmp (l3.toInt64 * ((l6 * vxB) - (l4 * vxA))) (l2.toInt64 * (l6 * vxB))) < 0 then (fX5_repeats_L43 n l2 l3 (l4 * vxA) (l6 * vxB) (l8 + (1 : Int32)) vxA vxB fxi) else (some (.inl (l8, vxA, vxB, fxi)))) := rfl
noncomputable def fX5_repeats (vxn : Int32) (vxk : Int32) (vxA : Int64) (vxB : Int64) (fxr : Nat → Int32) (fxb : Nat → Int32) (fxj : Nat → Int32) (fxi : Nat → Int32) (p0 : Int32) (p1 : Int32) (p2 : Int32) : Option (Int32 × Int64 × Int64 × (Nat → Int32)) := bd (fX5_isSubject p0) fun r1 => if r1 = 0 then (some ((-2 : Int32), vxA, vxB, fxi)) else (bd (fX5_in p2 (1 : Int32) (100 : Int32)) fun r2 => if r2 = 0 then (some ((-2 : Int32), vxA, vxB, fxi)) else (bd (fX5_in p1 (1 : Int32) p2) fun r3 => if r3 = 0 then (some ((-2 : Int32), vxA, vxB, fxi)) else (bd (fX5_findPass vxn vxk vxA vxB fxr fxb fxj fxi p0) fun r4 => bs (fX5_repeats_L43 FU p1 p2 (1 : Int64) (1 : Int64) (1 : Int32) r4.1 r4.2.1 r4.2.2) fun q8 => some ((-1 : Int32), r4.1, r4.2.1, r4.2.2))))
set_option maxHeartbeats 4000000 in
set_option maxRecDepth 100000 in
theorem c_X5_repeats (l : Launch) (dC : Nat → ClassId) (dI : Nat → Nat → Nat) (cy : ClassId) (ax axr axb axj axi axu : Nat) (sz : Nat) (vxn : Int32) (vxk : Int32) (vxA : Int64) (vxB : Int64) (vxC : Int64) (vxE : Int64) (fxr : Nat → Int32) (fxb : Nat → Int32) (fxj : Nat → Int32) (fxi : Nat → Int32) (p0 : Int32) (p1 : Int32) (p2 : Int32) (res : Int32 × Int64 × Int64 × (Nat → Int32)) (h : fX5_repeats vxn vxk vxA vxB fxr fxb fxj fxi p0 p1 p2 = some res) : Met l yX5_repeats wsX5_repeats ({ frames := 5, cells := 0, slots := 0, locals := 112 }) (va_Pc [.ref ax, .int p0, .int p1, .int p2] (PW (dC, dI) cy sz [(ax, .inr (5, [.int vxn, .ref axr, .ref axb, .ref axj, .int vxk, .ref axi, .ref axu, .long vxA, .long vxB, .long vxC, .long vxE])), (axr, .inl (cy, 8, .inl fxr)), (axb, .inl (cy, 8, .inl fxb)), (axj, .inl (cy, 6, .inl fxj)), (axi, .inl (cy, 8, .inl fxi))])) (va_Qi (fun (r : Int32) (_ : Unit) => r = res.1) (QW (dC, dI) cy (va_A [(ax, .inr (5, [.int vxn, .ref axr, .ref axb, .ref axj, .int vxk, .ref axi, .ref axu, .long vxA, .long vxB, .long vxC, .long vxE])), (axr, .inl (cy, 8, .inl fxr)), (axb, .inl (cy, 8, .inl fxb)), (axj, .inl (cy, 6, .inl fxj)), (axi, .inl (cy, 8, .inl fxi))] sz) [(ax, .inr (5, [.int vxn, .ref axr, .ref axb, .ref axj, .int vxk, .ref axi, .ref axu, .long res.2.1, .long res.2.2.1, .long vxC, .long vxE])), (axr, .inl (cy, 8, .inl fxr)), (axb, .inl (cy, 8, .inl fxb)), (axj, .inl (cy, 6, .inl fxj)), (axi, .inl (cy, 8, .inl res.2.2.2))]) (va_A [(ax, .inr (5, [.int vxn, .ref axr, .ref axb, .ref axj, .int vxk, .ref axi, .ref axu, .long vxA, .long vxB, .long vxC, .long vxE])), (axr, .inl (cy, 8, .inl fxr)), (axb, .inl (cy, 8, .inl fxb)), (axj, .inl (cy, 6, .inl fxj)), (axi, .inl (cy, 8, .inl fxi))] sz)) 0 0 (va_A [(ax, .inr (5, [.int vxn, .ref axr, .ref axb, .ref axj, .int vxk, .ref axi, .ref axu, .long vxA, .long vxB, .long vxC, .long vxE])), (axr, .inl (cy, 8, .inl fxr)), (axb, .inl (cy, 8, .inl fxb)), (axj, .inl (cy, 6, .inl fxj)), (axi, .inl (cy, 8, .inl fxi))] sz) := by
  refine Met.ofW (cc := cX5_repeats) (maxL := 9) (ret := (some .int)) (by decide) rfl ?_
  intro p e s m args below meth c s₁ B hml hv
  obtain ⟨rfl, hsz, hP, hK, hD0, hN⟩ := hv
  have hx := B.exec
  have hb := B.bytes
  have hr := B.returns
  have hts := atoms_spec (ws := wsX5_repeats) B.pre
  have hown : s.vm.findClass RX5 = some m.cls := findClass_of_methodNamed B.named
  have hlocks := B.notSynchronized
  subst hsz
  have hD := hD0.self (sz := s.heap.size)
  clear hD0
  generalize hAe : va_A [(ax, .inr (5, [.int vxn, .ref axr, .ref axb, .ref axj, .int vxk, .ref axi, .ref axu, .long vxA, .long vxB, .long vxC, .long vxE])), (axr, .inl (cy, 8, .inl fxr)), (axb, .inl (cy, 8, .inl fxb)), (axj, .inl (cy, 6, .inl fxj)), (axi, .inl (cy, 8, .inl fxi))] s.heap.size = A at hD ⊢
  have hA : ∀ q : Nat, s.heap.size ≤ q → A q := fun q h => by rw [← hAe]; exact Or.inr h
  have hS : va_S A s.heap s.heap [] := va_S.rf
  have hl := lv_entry ([.ref ax, .int p0, .int p1, .int p2]) (n := 9) (Nat.le_of_ble_eq_true rfl)
  rw [lg_entry_eq]
  generalize (lg_sl ([.ref ax, .int p0, .int p1, .int p2]) ++ List.replicate (9 - (lg_sl ([.ref ax, .int p0, .int p1, .int p2])).length) Slot.unset).toArray = ls at hl ⊢
  replace hl : lv_has ls 9 [(0, .ref ax), (1, .int p0), (2, .int p1), (3, .int p2)] := hl
  replace hP : va_P (dC, dI) vwCl [(ax, .inr (5, [.int vxn, .ref axr, .ref axb, .ref axj, .int vxk, .ref axi, .ref axu, .long vxA, .long vxB, .long vxC, .long vxE])), (axr, .inl (cy, 8, .inl fxr)), (axb, .inl (cy, 8, .inl fxb)), (axj, .inl (cy, 6, .inl fxj)), (axi, .inl (cy, 8, .inl fxi))] s.heap := hP
  obtain ⟨locs, hlocs⟩ : ∃ lc : List Loc, lc = [] := ⟨_, rfl⟩
  rw [← hlocs] at hS ⊢
  obtain ⟨H, hH⟩ : ∃ H : Heap, H = s.heap := ⟨_, rfl⟩
  have hP2 := hP; rw [← hH] at hP2
  have hS2 : va_S A s.heap H locs := by rw [hH]; exact hS
  suffices hgo : W p l e (headSpec wsX5_repeats ({ frames := 5, cells := 0, slots := 0, locals := 112 })).room s m (([.ref ax, .int p0, .int p1, .int p2] : List Value).toArray) below meth c H locs 0 0 (MQ below (va_Qi (fun (r : Int32) (_ : Unit) => r = res.1) (QW (dC, dI) cy A [(ax, .inr (5, [.int vxn, .ref axr, .ref axb, .ref axj, .int vxk, .ref axi, .ref axu, .long res.2.1, .long res.2.2.1, .long vxC, .long vxE])), (axr, .inl (cy, 8, .inl fxr)), (axb, .inl (cy, 8, .inl fxb)), (axj, .inl (cy, 6, .inl fxj)), (axi, .inl (cy, 8, .inl res.2.2.2))]) A) (([.ref ax, .int p0, .int p1, .int p2] : List Value).toArray) s 0 0 A) (F0 m 0 ls []) by rw [hH] at hgo; exact hgo
  replace hP := hP2
  replace hS := hS2
  clear hP2 hS2
  have hin_X5 : ∀ w ∈ wsX50, w ∈ wsX5_repeats := by decide +kernel
  have hf_107 := hts (.fieldLink RX5 107 "FewLooksModel" "above" "J") (by decide +kernel)
  have hf_111 := hts (.fieldLink RX5 111 "FewLooksModel" "below" "J") (by decide +kernel)
  unfold fX5_repeats at h
  refine lv_iload_n hx hb dX5_repeats_0 rfl (lv_at hl 1 rfl) ?_
  obtain ⟨r1, hr1, h⟩ := bd_some h
  have hFc := va_free (wc := []) hD hS hA [] rfl
  refine va_calli (va_runS (As := [.int p0]) (rest := []) ⟨hx, hb, hml, hown, hts⟩ (c_X5_isSubject l dC dI cy  H.size  p0 r1 hr1) (va_cwS 1 hts gX5_repeats_X5_isSubject rfl rfl rfl (by decide +kernel) ⟨Nat.le_of_ble_eq_true rfl, Nat.le_of_ble_eq_true rfl⟩) ⟨PW_fb, PW_pre (hP.sub (ws' := []) [] rfl) hK (hD.sub [] (by decide) rfl) hN⟩ rfl rfl hl.1 rfl (lv_room (Nat.le_of_ble_eq_true rfl)) dX5_repeats_1 ⟨Nat.zero_le _, Nat.zero_le _⟩) hS (fun q _ h => hFc q h) hFc (fun rz u t H locs ht hvm hw hB hz1 hk1 hS => ?_)
  obtain ⟨hP, hD⟩ := jn (wr := [(ax, .inr (5, [.int vxn, .ref axr, .ref axb, .ref axj, .int vxk, .ref axi, .ref axu, .long vxA, .long vxB, .long vxC, .long vxE])), (axr, .inl (cy, 8, .inl fxr)), (axb, .inl (cy, 8, .inl fxb)), (axj, .inl (cy, 6, .inl fxj)), (axi, .inl (cy, 8, .inl fxi))]) (w1 := []) (ws' := [(ax, .inr (5, [.int vxn, .ref axr, .ref axb, .ref axj, .int vxk, .ref axi, .ref axu, .long vxA, .long vxB, .long vxC, .long vxE])), (axr, .inl (cy, 8, .inl fxr)), (axb, .inl (cy, 8, .inl fxb)), (axj, .inl (cy, 6, .inl fxj)), (axi, .inl (cy, 8, .inl fxi))]) hP hD [] [0, 1, 2, 3, 4] rfl rfl (by decide) (by decide) hk1 hFc hB ht [0, 1, 2, 3, 4] rfl (by decide) rfl
  obtain ⟨hw, br1⟩ := hw
  replace hw := hw.symm
  subst hw
  clear hFc hB hk1 hz1 hvm
  refine lv_if_eq (tgt := 26) hx hb dX5_repeats_4 (by decide) (fun c11 => ?_) (fun c11 => ?_)
  · rw [if_pos c11] at h
    refine lv_bipush (v := (-2 : Int32)) hx hb dX5_repeats_26 (by decide) ?_
    have h0 := Option.some.inj h
    subst h0
    exact W.iret hx hb hr (fun t ht hW => ⟨⟨_, (), rfl, rfl, QW_mk hP hK hD ht hW⟩, hS.F ht⟩) hS.2.2 dX5_repeats_28
  · rw [if_neg c11] at h
    refine lv_iload_n hx hb dX5_repeats_7 rfl (lv_at hl 3 rfl) ?_
    refine lv_iconst (v := (1 : Int32)) hx hb dX5_repeats_8 (by decide) ?_
    refine lv_bipush (v := (100 : Int32)) hx hb dX5_repeats_9 (by decide) ?_
    obtain ⟨r2, hr2, h⟩ := bd_some h
    have hFc := va_free (wc := []) hD hS hA [] rfl
    refine va_calli (va_runS (As := [.int p2, .int (1 : Int32), .int (100 : Int32)]) (rest := []) ⟨hx, hb, hml, hown, hts⟩ (c_X5_in l dC dI cy  H.size  p2 (1 : Int32) (100 : Int32) r2 hr2) (va_cwS 3 hts gX5_repeats_X5_in rfl rfl rfl (by decide +kernel) ⟨Nat.le_of_ble_eq_true rfl, Nat.le_of_ble_eq_true rfl⟩) ⟨PW_fb, PW_pre (hP.sub (ws' := []) [] rfl) hK (hD.sub [] (by decide) rfl) hN⟩ rfl rfl hl.1 rfl (lv_room (Nat.le_of_ble_eq_true rfl)) dX5_repeats_11 ⟨Nat.zero_le _, Nat.zero_le _⟩) hS (fun q _ h => hFc q h) hFc (fun rz u t H locs ht hvm hw hB hz1 hk1 hS => ?_)
    obtain ⟨hP, hD⟩ := jn (wr := [(ax, .inr (5, [.int vxn, .ref axr, .ref axb, .ref axj, .int vxk, .ref axi, .ref axu, .long vxA, .long vxB, .long vxC, .long vxE])), (axr, .inl (cy, 8, .inl fxr)), (axb, .inl (cy, 8, .inl fxb)), (axj, .inl (cy, 6, .inl fxj)), (axi, .inl (cy, 8, .inl fxi))]) (w1 := []) (ws' := [(ax, .inr (5, [.int vxn, .ref axr, .ref axb, .ref axj, .int vxk, .ref axi, .ref axu, .long vxA, .long vxB, .long vxC, .long vxE])), (axr, .inl (cy, 8, .inl fxr)), (axb, .inl (cy, 8, .inl fxb)), (axj, .inl (cy, 6, .inl fxj)), (axi, .inl (cy, 8, .inl fxi))]) hP hD [] [0, 1, 2, 3, 4] rfl rfl (by decide) (by decide) hk1 hFc hB ht [0, 1, 2, 3, 4] rfl (by decide) rfl
    obtain ⟨hw, br2⟩ := hw
    replace hw := hw.symm
    subst hw
    clear hFc hB hk1 hz1 hvm
    refine lv_if_eq (tgt := 26) hx hb dX5_repeats_14 (by decide) (fun c10 => ?_) (fun c10 => ?_)
    · rw [if_pos c10] at h
      refine lv_bipush (v := (-2 : Int32)) hx hb dX5_repeats_26 (by decide) ?_
      have h0 := Option.some.inj h
      subst h0
      exact W.iret hx hb hr (fun t ht hW => ⟨⟨_, (), rfl, rfl, QW_mk hP hK hD ht hW⟩, hS.F ht⟩) hS.2.2 dX5_repeats_28
    · rw [if_neg c10] at h
      refine lv_iload_n hx hb dX5_repeats_17 rfl (lv_at hl 2 rfl) ?_
      refine lv_iconst (v := (1 : Int32)) hx hb dX5_repeats_18 (by decide) ?_
      refine lv_iload_n hx hb dX5_repeats_19 rfl (lv_at hl 3 rfl) ?_
      obtain ⟨r3, hr3, h⟩ := bd_some h
      have hFc := va_free (wc := []) hD hS hA [] rfl
      refine va_calli (va_runS (As := [.int p1, .int (1 : Int32), .int p2]) (rest := []) ⟨hx, hb, hml, hown, hts⟩ (c_X5_in l dC dI cy  H.size  p1 (1 : Int32) p2 r3 hr3) (va_cwS 3 hts gX5_repeats_X5_in rfl rfl rfl (by decide +kernel) ⟨Nat.le_of_ble_eq_true rfl, Nat.le_of_ble_eq_true rfl⟩) ⟨PW_fb, PW_pre (hP.sub (ws' := []) [] rfl) hK (hD.sub [] (by decide) rfl) hN⟩ rfl rfl hl.1 rfl (lv_room (Nat.le_of_ble_eq_true rfl)) dX5_repeats_20 ⟨Nat.zero_le _, Nat.zero_le _⟩) hS (fun q _ h => hFc q h) hFc (fun rz u t H locs ht hvm hw hB hz1 hk1 hS => ?_)
      obtain ⟨hP, hD⟩ := jn (wr := [(ax, .inr (5, [.int vxn, .ref axr, .ref axb, .ref axj, .int vxk, .ref axi, .ref axu, .long vxA, .long vxB, .long vxC, .long vxE])), (axr, .inl (cy, 8, .inl fxr)), (axb, .inl (cy, 8, .inl fxb)), (axj, .inl (cy, 6, .inl fxj)), (axi, .inl (cy, 8, .inl fxi))]) (w1 := []) (ws' := [(ax, .inr (5, [.int vxn, .ref axr, .ref axb, .ref axj, .int vxk, .ref axi, .ref axu, .long vxA, .long vxB, .long vxC, .long vxE])), (axr, .inl (cy, 8, .inl fxr)), (axb, .inl (cy, 8, .inl fxb)), (axj, .inl (cy, 6, .inl fxj)), (axi, .inl (cy, 8, .inl fxi))]) hP hD [] [0, 1, 2, 3, 4] rfl rfl (by decide) (by decide) hk1 hFc hB ht [0, 1, 2, 3, 4] rfl (by decide) rfl
      obtain ⟨hw, br3⟩ := hw
      replace hw := hw.symm
      subst hw
      clear hFc hB hk1 hz1 hvm
      refine lv_if_ne (tgt := 29) hx hb dX5_repeats_23 (by decide) (fun c9 => ?_) (fun c9 => ?_)
      · rw [if_neg c9] at h
        refine lv_aload_n hx hb dX5_repeats_29 rfl (lv_at hl 0 rfl) ?_
        refine lv_iload_n hx hb dX5_repeats_30 rfl (lv_at hl 1 rfl) ?_
        obtain ⟨r4, hr4, h⟩ := bd_some h
        have hFc := va_free (wc := [(ax, .inr (5, [.int vxn, .ref axr, .ref axb, .ref axj, .int vxk, .ref axi, .ref axu, .long vxA, .long vxB, .long vxC, .long vxE])), (axr, .inl (cy, 8, .inl fxr)), (axb, .inl (cy, 8, .inl fxb)), (axj, .inl (cy, 6, .inl fxj)), (axi, .inl (cy, 8, .inl fxi))]) hD hS hA [0, 1, 2, 3, 4] rfl
        refine va_callv (va_runV (As := [.int p0]) (rest := []) ⟨hx, hb, hml, hown, hts⟩ (c_X5_findPass l dC dI cy ax axr axb axj axi axu H.size vxn vxk vxA vxB vxC vxE fxr fxb fxj fxi p0 r4 hr4) (cwV 1 hts gX5_repeats_X5_findPass rfl rfl rfl (by decide +kernel) ⟨Nat.le_of_ble_eq_true rfl, Nat.le_of_ble_eq_true rfl⟩) ⟨PW_fb, va_recv hK hP (ci := 5) (q0 := 0) rfl rfl, PW_pre (hP.sub (ws' := [(ax, .inr (5, [.int vxn, .ref axr, .ref axb, .ref axj, .int vxk, .ref axi, .ref axu, .long vxA, .long vxB, .long vxC, .long vxE])), (axr, .inl (cy, 8, .inl fxr)), (axb, .inl (cy, 8, .inl fxb)), (axj, .inl (cy, 6, .inl fxj)), (axi, .inl (cy, 8, .inl fxi))]) [0, 1, 2, 3, 4] rfl) hK (hD.sub [0, 1, 2, 3, 4] (by decide) rfl) hN⟩ rfl rfl hl.1 rfl (lv_room (Nat.le_of_ble_eq_true rfl)) dX5_repeats_31 ⟨Nat.zero_le _, Nat.zero_le _⟩) hS (fun q _ h => hFc q h) hFc (fun u t H locs ht hvm hw hB hz1 hk1 hS => ?_)
        obtain ⟨hP, hD⟩ := jn (wr := []) (w1 := [(ax, .inr (5, [.int vxn, .ref axr, .ref axb, .ref axj, .int vxk, .ref axi, .ref axu, .long r4.1, .long r4.2.1, .long vxC, .long vxE])), (axr, .inl (cy, 8, .inl fxr)), (axb, .inl (cy, 8, .inl fxb)), (axj, .inl (cy, 6, .inl fxj)), (axi, .inl (cy, 8, .inl r4.2.2))]) (ws' := [(ax, .inr (5, [.int vxn, .ref axr, .ref axb, .ref axj, .int vxk, .ref axi, .ref axu, .long r4.1, .long r4.2.1, .long vxC, .long vxE])), (axr, .inl (cy, 8, .inl fxr)), (axb, .inl (cy, 8, .inl fxb)), (axj, .inl (cy, 6, .inl fxj)), (axi, .inl (cy, 8, .inl r4.2.2))]) hP hD [0, 1, 2, 3, 4] [] rfl rfl (by decide) (by decide) hk1 hFc hB ht [0, 1, 2, 3, 4] rfl (by decide) rfl
        clear hFc hB hk1 hz1 hvm
        refine lv_lconst (v := (1 : Int64)) hx hb dX5_repeats_34 (by decide) ?_
        refine lv_lstore (lv' := [(4, .long (1 : Int64)), (0, .ref ax), (1, .int p0), (2, .int p1), (3, .int p2)]) hx hb dX5_repeats_35 hl (by decide) rfl (fun ls hl => ?_)
        refine lv_lconst (v := (1 : Int64)) hx hb dX5_repeats_37 (by decide) ?_
        refine lv_lstore (lv' := [(6, .long (1 : Int64)), (4, .long (1 : Int64)), (0, .ref ax), (1, .int p0), (2, .int p1), (3, .int p2)]) hx hb dX5_repeats_38 hl (by decide) rfl (fun ls hl => ?_)
        refine lv_iconst (v := (1 : Int32)) hx hb dX5_repeats_40 (by decide) ?_
        refine lv_istore (lv' := [(8, .int (1 : Int32)), (6, .long (1 : Int64)), (4, .long (1 : Int64)), (0, .ref ax), (1, .int p0), (2, .int p1), (3, .int p2)]) hx hb dX5_repeats_41 hl (by decide) rfl (fun ls hl => ?_)
        have L43_6 : ∀ (n : Nat) (l1 : Int32) (l2 : Int32) (l3 : Int32) (l4 : Int64) (l6 : Int64) (l8 : Int32) (vxA : Int64) (vxB : Int64) (fxi : Nat → Int32) (rs : ((Int32 × Int64 × Int64 × (Nat → Int32)) ⊕ (Int64 × Int64 × Int32))) (H : Heap) (locs : List Loc) (ls : Array Slot), fX5_repeats_L43 n l2 l3 l4 l6 l8 vxA vxB fxi = some rs → lv_has ls 9 [(0, .ref ax), (1, .int l1), (2, .int l2), (3, .int l3), (4, .long l4), (6, .long l6), (8, .int l8)] → va_P (dC, dI) vwCl [(ax, .inr (5, [.int vxn, .ref axr, .ref axb, .ref axj, .int vxk, .ref axi, .ref axu, .long vxA, .long vxB, .long vxC, .long vxE])), (axr, .inl (cy, 8, .inl fxr)), (axb, .inl (cy, 8, .inl fxb)), (axj, .inl (cy, 6, .inl fxj)), (axi, .inl (cy, 8, .inl fxi))] H → va_D A [(ax, .inr (5, [.int vxn, .ref axr, .ref axb, .ref axj, .int vxk, .ref axi, .ref axu, .long vxA, .long vxB, .long vxC, .long vxE])), (axr, .inl (cy, 8, .inl fxr)), (axb, .inl (cy, 8, .inl fxb)), (axj, .inl (cy, 6, .inl fxj)), (axi, .inl (cy, 8, .inl fxi))] → va_S A s.heap H locs → (∀ q, rs = .inl q → q = res) → (∀ q, rs = .inr q → (∀ (H : Heap) (locs : List Loc) (ls : Array Slot), lv_has ls 9 [(0, .ref ax), (1, .int l1), (2, .int l2), (3, .int l3), (4, .long q.1), (6, .long q.2.1), (8, .int q.2.2)] → va_P (dC, dI) vwCl [(ax, .inr (5, [.int vxn, .ref axr, .ref axb, .ref axj, .int vxk, .ref axi, .ref axu, .long vxA, .long vxB, .long vxC, .long vxE])), (axr, .inl (cy, 8, .inl fxr)), (axb, .inl (cy, 8, .inl fxb)), (axj, .inl (cy, 6, .inl fxj)), (axi, .inl (cy, 8, .inl fxi))] H → va_D A [(ax, .inr (5, [.int vxn, .ref axr, .ref axb, .ref axj, .int vxk, .ref axi, .ref axu, .long vxA, .long vxB, .long vxC, .long vxE])), (axr, .inl (cy, 8, .inl fxr)), (axb, .inl (cy, 8, .inl fxb)), (axj, .inl (cy, 6, .inl fxj)), (axi, .inl (cy, 8, .inl fxi))] → va_S A s.heap H locs → W p l e (headSpec wsX5_repeats ({ frames := 5, cells := 0, slots := 0, locals := 112 })).room s m (([.ref ax, .int p0, .int p1, .int p2] : List Value).toArray) below meth c H locs 0 0 (MQ below (va_Qi (fun (r : Int32) (_ : Unit) => r = res.1) (QW (dC, dI) cy A [(ax, .inr (5, [.int vxn, .ref axr, .ref axb, .ref axj, .int vxk, .ref axi, .ref axu, .long res.2.1, .long res.2.2.1, .long vxC, .long vxE])), (axr, .inl (cy, 8, .inl fxr)), (axb, .inl (cy, 8, .inl fxb)), (axj, .inl (cy, 6, .inl fxj)), (axi, .inl (cy, 8, .inl res.2.2.2))]) A) (([.ref ax, .int p0, .int p1, .int p2] : List Value).toArray) s 0 0 A) (F0 m 94 ls []))) → W p l e (headSpec wsX5_repeats ({ frames := 5, cells := 0, slots := 0, locals := 112 })).room s m (([.ref ax, .int p0, .int p1, .int p2] : List Value).toArray) below meth c H locs 0 0 (MQ below (va_Qi (fun (r : Int32) (_ : Unit) => r = res.1) (QW (dC, dI) cy A [(ax, .inr (5, [.int vxn, .ref axr, .ref axb, .ref axj, .int vxk, .ref axi, .ref axu, .long res.2.1, .long res.2.2.1, .long vxC, .long vxE])), (axr, .inl (cy, 8, .inl fxr)), (axb, .inl (cy, 8, .inl fxb)), (axj, .inl (cy, 6, .inl fxj)), (axi, .inl (cy, 8, .inl res.2.2.2))]) A) (([.ref ax, .int p0, .int p1, .int p2] : List Value).toArray) s 0 0 A) (F0 m 43 ls []) := by
          intro n
          induction n with
          | zero =>
            intro l1 l2 l3 l4 l6 l8 vxA vxB fxi rs H locs ls h
            rw [fX5_repeats_L43_0] at h
            cases h
          | succ n ih =>
            intro l1 l2 l3 l4 l6 l8 vxA vxB fxi rs H locs ls h hl hP hD hS kr kx
            rw [fX5_repeats_L43_s] at h
            refine lv_iload hx hb dX5_repeats_43 (lv_at hl 6 rfl) ?_
            refine lv_bipush (v := (9 : Int32)) hx hb dX5_repeats_45 (by decide) ?_
            refine lv_icmp_gt (tgt := 94) hx hb dX5_repeats_47 (by decide) (fun c6 => ?_) (fun c6 => ?_)
            · rw [if_pos c6] at h
              have h0 := Option.some.inj h
              subst h0
              exact kx _ rfl H locs ls (lv_sub hl [0, 1, 2, 3, 4, 5, 6] rfl) hP hD hS
            · rw [if_neg c6] at h
              refine lv_lload hx hb dX5_repeats_50 (lv_at hl 4 rfl) ?_
              refine lv_aload_n hx hb dX5_repeats_52 rfl (lv_at hl 0 rfl) ?_
              refine va_get (D := (dC, dI)) (ci := 5) (v := .long vxA) (C := RX5) (T := TX5) (N := 11) hx hb hts hin_X5 hown hK hP 0 rfl rfl 7 (by decide) (hf_107) (fun _ h9 => h9) rfl dX5_repeats_53 ?_
              refine lv_lmul hx hb dX5_repeats_56 ?_
              refine lv_lstore (lv' := [(4, .long (l4 * vxA)), (0, .ref ax), (1, .int l1), (2, .int l2), (3, .int l3), (6, .long l6), (8, .int l8)]) hx hb dX5_repeats_57 hl (by decide) rfl (fun ls hl => ?_)
              refine lv_lload hx hb dX5_repeats_59 (lv_at hl 5 rfl) ?_
              refine lv_aload_n hx hb dX5_repeats_61 rfl (lv_at hl 1 rfl) ?_
              refine va_get (D := (dC, dI)) (ci := 5) (v := .long vxB) (C := RX5) (T := TX5) (N := 11) hx hb hts hin_X5 hown hK hP 0 rfl rfl 8 (by decide) (hf_111) (fun _ h9 => h9) rfl dX5_repeats_62 ?_
              refine lv_lmul hx hb dX5_repeats_65 ?_
              refine lv_lstore (lv' := [(6, .long (l6 * vxB)), (4, .long (l4 * vxA)), (0, .ref ax), (1, .int l1), (2, .int l2), (3, .int l3), (8, .int l8)]) hx hb dX5_repeats_66 hl (by decide) rfl (fun ls hl => ?_)
              refine lv_iload_n hx hb dX5_repeats_68 rfl (lv_at hl 5 rfl) ?_
              refine lv_i2l (v := l3.toInt64) hx hb dX5_repeats_69 rfl ?_
              refine lv_lload hx hb dX5_repeats_70 (lv_at hl 0 rfl) ?_
              refine lv_lload hx hb dX5_repeats_72 (lv_at hl 1 rfl) ?_
              refine lv_lsub hx hb dX5_repeats_74 ?_
              refine lv_lmul hx hb dX5_repeats_75 ?_
              refine lv_iload_n hx hb dX5_repeats_76 rfl (lv_at hl 4 rfl) ?_
              refine lv_i2l (v := l2.toInt64) hx hb dX5_repeats_77 rfl ?_
              refine lv_lload hx hb dX5_repeats_78 (lv_at hl 0 rfl) ?_
              refine lv_lmul hx hb dX5_repeats_80 ?_
              refine W.lcmp hx hb dX5_repeats_81 ?_
              refine lv_if_lt (tgt := 88) hx hb dX5_repeats_82 (by decide) (fun c5 => ?_) (fun c5 => ?_)
              · rw [if_pos c5] at h
                refine lv_iinc (v := l8 + (1 : Int32)) (lv' := [(8, .int (l8 + (1 : Int32))), (6, .long (l6 * vxB)), (4, .long (l4 * vxA)), (0, .ref ax), (1, .int l1), (2, .int l2), (3, .int l3)]) hx hb dX5_repeats_88 hl (k := 6) rfl rfl (by decide) rfl (fun ls hl => ?_)
                refine lv_goto (tgt := 43) hx hb dX5_repeats_91 (by decide) ?_
                exact ih l1 l2 l3 (l4 * vxA) (l6 * vxB) (l8 + (1 : Int32)) vxA vxB fxi rs H locs ls h (lv_sub hl [3, 4, 5, 6, 2, 1, 0] rfl) hP hD hS kr kx
              · rw [if_neg c5] at h
                refine lv_iload hx hb dX5_repeats_85 (lv_at hl 6 rfl) ?_
                have h0 := Option.some.inj h
                subst h0
                have hk := kr _ rfl
                subst hk
                exact W.iret hx hb hr (fun t ht hW => ⟨⟨_, (), rfl, rfl, QW_mk hP hK hD ht hW⟩, hS.F ht⟩) hS.2.2 dX5_repeats_87
        obtain ⟨rq8, hq8, kq8, xq8⟩ := bs_some h
        refine L43_6 FU p0 p1 p2 (1 : Int64) (1 : Int64) (1 : Int32) r4.1 r4.2.1 r4.2.2 rq8 H locs ls hq8 (lv_sub hl [3, 4, 5, 6, 2, 1, 0] rfl) hP hD hS kq8 (fun q8 eq8 H locs ls hl hP hD hS => ?_)
        replace h := xq8 q8 eq8
        refine lv_iconst (v := (-1 : Int32)) hx hb dX5_repeats_94 (by decide) ?_
        have h0 := Option.some.inj h
        subst h0
        exact W.iret hx hb hr (fun t ht hW => ⟨⟨_, (), rfl, rfl, QW_mk hP hK hD ht hW⟩, hS.F ht⟩) hS.2.2 dX5_repeats_95
      · rw [if_pos c9] at h
        refine lv_bipush (v := (-2 : Int32)) hx hb dX5_repeats_26 (by decide) ?_
        have h0 := Option.some.inj h
        subst h0
        exact W.iret hx hb hr (fun t ht hW => ⟨⟨_, (), rfl, rfl, QW_mk hP hK hD ht hW⟩, hS.F ht⟩) hS.2.2 dX5_repeats_28

noncomputable def fX5_findWorst_L19 (n : Nat) (l4 : Int32) (l5 : Int32) (vxn : Int32) (fxi : Nat → Int32) : Option (Int32 × (Nat → Int32)) := match n with
  | 0 => none
  | n + 1 => if vxn ≤ l5 then (some (l5, fxi)) else (gin l5 8 (fX5_findWorst_L19 n l4 (l5 + (1 : Int32)) vxn (upd fxi l5.toNatClampNeg ((l4 >>> (((vxn - (1 : Int32)) - l5) &&& 31)) &&& (1 : Int32)))))
theorem fX5_findWorst_L19_0 (l4 : Int32) (l5 : Int32) (vxn : Int32) (fxi : Nat → Int32) : fX5_findWorst_L19 0 l4 l5 vxn fxi = none := rfl
theorem fX5_findWorst_L19_s (n : Nat) (l4 : Int32) (l5 : Int32) (vxn : Int32) (fxi : Nat → Int32) : fX5_findWorst_L19 (n + 1) l4 l5 vxn fxi = if vxn ≤ l5 then (some (l5, fxi)) else (gin l5 8 (fX5_findWorst_L19 n l4 (l5 + (1 : Int32)) vxn (upd fxi l5.toNatClampNeg ((l4 >>> (((vxn - (1 : Int32)) - l5) &&& 31)) &&& (1 : Int32))))) := rfl
noncomputable def fX5_findWorst_L5 (n : Nat) (l1 : Int32) (l2 : Int32) (l3 : Int32) (l4 : Int32) (vxn : Int32) (vxA : Int64) (vxB : Int64) (vxC : Int64) (vxE : Int64) (fxi : Nat → Int32) (fxu : Nat → Int32) : Option (Int32 × Int32 × Int64 × Int64 × Int64 × Int64 × (Nat → Int32) × (Nat → Int32)) := match n with
  | 0 => none
  | n + 1 => if ((1 : Int32) <<< (vxn &&& 31)) ≤ l4 then (some (l3, l4, vxA, vxB, vxC, vxE, fxi, fxu)) else (bd (fX5_findWorst_L19 FU l4 (0 : Int32) vxn fxi) fun q3 => bd (fX5_fromKind vxn q3.2 fxu l1) fun r4 => if r4.1 < l2 then (fX5_findWorst_L5 n l1 l2 l3 (l4 + (1 : Int32)) vxn vxA vxB vxC vxE q3.2 r4.2) else (bd (fX5_countRow vxn vxA vxB q3.2 l1) fun r5 => if l3 = (-1 : Int32) then (fX5_findWorst_L5 n l1 l2 l4 (l4 + (1 : Int32)) vxn r5.1 r5.2 r5.1 r5.2 q3.2 r4.2) else (if (lg_cmp (r5.1 * vxE) (vxC * r5.2)) ≤ 0 then (fX5_findWorst_L5 n l1 l2 l3 (l4 + (1 : Int32)) vxn r5.1 r5.2 vxC vxE q3.2 r4.2) else (fX5_findWorst_L5 n l1 l2 l4 (l4 + (1 : Int32)) vxn r5.1 r5.2 r5.1 r5.2 q3.2 r4.2))))
theorem fX5_findWorst_L5_0 (l1 : Int32) (l2 : Int32) (l3 : Int32) (l4 : Int32) (vxn : Int32) (vxA : Int64) (vxB : Int64) (vxC : Int64) (vxE : Int64) (fxi : Nat → Int32) (fxu : Nat → Int32) : fX5_findWorst_L5 0 l1 l2 l3 l4 vxn vxA vxB vxC vxE fxi fxu = none := rfl
theorem fX5_findWorst_L5_s (n : Nat) (l1 : Int32) (l2 : Int32) (l3 : Int32) (l4 : Int32) (vxn : Int32) (vxA : Int64) (vxB : Int64) (vxC : Int64) (vxE : Int64) (fxi : Nat → Int32) (fxu : Nat → Int32) : fX5_findWorst_L5 (n + 1) l1 l2 l3 l4 vxn vxA vxB vxC vxE fxi fxu = if ((1 : Int32) <<< (vxn &&& 31)) ≤ l4 then (some (l3, l4, vxA, vxB, vxC, vxE, fxi, fxu)) else (bd (fX5_findWorst_L19 FU l4 (0 : Int32) vxn fxi) fun q3 => bd (fX5_fromKind vxn q3.2 fxu l1) fun r4 => if r4.1 < l2 then (fX5_findWorst_L5 n l1 l2 l3 (l4 + (1 : Int32)) vxn vxA vxB vxC vxE q3.2 r4.2) else (bd (fX5_countRow vxn vxA vxB q3.2 l1) fun r5 => if l3 = (-1 : Int32) then (fX5_findWorst_L5 n l1 l2 l4 (l4 + (1 : Int32)) vxn r5.1 r5.2 r5.1 r5.2 q3.2 r4.2) else (if (lg_cmp (r5.1 * vxE) (vxC * r5.2)) ≤ 0 then (fX5_findWorst_L5 n l1 l2 l3 (l4 + (1 : Int32)) vxn r5.1 r5.2 vxC vxE q3.2 r4.2) else (fX5_findWorst_L5 n l1 l2 l4 (l4 + (1 : Int32)) vxn r5.1 r5.2 r5.1 r5.2 q3.2 r4.2)))) := rfl
noncomputable def fX5_findWorst (vxn : Int32) (vxA : Int64) (vxB : Int64) (vxC : Int64) (vxE : Int64) (fxi : Nat → Int32) (fxu : Nat → Int32) (p0 : Int32) (p1 : Int32) : Option (Int32 × Int64 × Int64 × Int64 × Int64 × (Nat → Int32) × (Nat → Int32)) := bd (fX5_findWorst_L5 FU p0 p1 (-1 : Int32) (0 : Int32) vxn vxA vxB vxC vxE fxi fxu) fun q11 => some (q11.1, q11.2.2.1, q11.2.2.2.1, q11.2.2.2.2.1, q11.2.2.2.2.2.1, q11.2.2.2.2.2.2.1, q11.2.2.2.2.2.2.2)
set_option maxHeartbeats 4000000 in
set_option maxRecDepth 100000 in
theorem c_X5_findWorst (l : Launch) (dC : Nat → ClassId) (dI : Nat → Nat → Nat) (cy : ClassId) (ax axr axb axj axi axu : Nat) (sz : Nat) (vxn : Int32) (vxk : Int32) (vxA : Int64) (vxB : Int64) (vxC : Int64) (vxE : Int64) (fxi : Nat → Int32) (fxu : Nat → Int32) (p0 : Int32) (p1 : Int32) (res : Int32 × Int64 × Int64 × Int64 × Int64 × (Nat → Int32) × (Nat → Int32)) (h : fX5_findWorst vxn vxA vxB vxC vxE fxi fxu p0 p1 = some res) : Met l yX5_findWorst wsX5_findWorst ({ frames := 3, cells := 0, slots := 0, locals := 73 }) (va_Pc [.ref ax, .int p0, .int p1] (PW (dC, dI) cy sz [(ax, .inr (5, [.int vxn, .ref axr, .ref axb, .ref axj, .int vxk, .ref axi, .ref axu, .long vxA, .long vxB, .long vxC, .long vxE])), (axi, .inl (cy, 8, .inl fxi)), (axu, .inl (cy, 8, .inl fxu))])) (va_Qi (fun (r : Int32) (_ : Unit) => r = res.1) (QW (dC, dI) cy (va_A [(ax, .inr (5, [.int vxn, .ref axr, .ref axb, .ref axj, .int vxk, .ref axi, .ref axu, .long vxA, .long vxB, .long vxC, .long vxE])), (axi, .inl (cy, 8, .inl fxi)), (axu, .inl (cy, 8, .inl fxu))] sz) [(ax, .inr (5, [.int vxn, .ref axr, .ref axb, .ref axj, .int vxk, .ref axi, .ref axu, .long res.2.1, .long res.2.2.1, .long res.2.2.2.1, .long res.2.2.2.2.1])), (axi, .inl (cy, 8, .inl res.2.2.2.2.2.1)), (axu, .inl (cy, 8, .inl res.2.2.2.2.2.2))]) (va_A [(ax, .inr (5, [.int vxn, .ref axr, .ref axb, .ref axj, .int vxk, .ref axi, .ref axu, .long vxA, .long vxB, .long vxC, .long vxE])), (axi, .inl (cy, 8, .inl fxi)), (axu, .inl (cy, 8, .inl fxu))] sz)) 0 0 (va_A [(ax, .inr (5, [.int vxn, .ref axr, .ref axb, .ref axj, .int vxk, .ref axi, .ref axu, .long vxA, .long vxB, .long vxC, .long vxE])), (axi, .inl (cy, 8, .inl fxi)), (axu, .inl (cy, 8, .inl fxu))] sz) := by
  refine Met.ofW (cc := cX5_findWorst) (maxL := 6) (ret := (some .int)) (by decide) rfl ?_
  intro p e s m args below meth c s₁ B hml hv
  obtain ⟨rfl, hsz, hP, hK, hD0, hN⟩ := hv
  have hx := B.exec
  have hb := B.bytes
  have hr := B.returns
  have hts := atoms_spec (ws := wsX5_findWorst) B.pre
  have hown : s.vm.findClass RX5 = some m.cls := findClass_of_methodNamed B.named
  have hlocks := B.notSynchronized
  subst hsz
  have hD := hD0.self (sz := s.heap.size)
  clear hD0
  generalize hAe : va_A [(ax, .inr (5, [.int vxn, .ref axr, .ref axb, .ref axj, .int vxk, .ref axi, .ref axu, .long vxA, .long vxB, .long vxC, .long vxE])), (axi, .inl (cy, 8, .inl fxi)), (axu, .inl (cy, 8, .inl fxu))] s.heap.size = A at hD ⊢
  have hA : ∀ q : Nat, s.heap.size ≤ q → A q := fun q h => by rw [← hAe]; exact Or.inr h
  have hS : va_S A s.heap s.heap [] := va_S.rf
  have hl := lv_entry ([.ref ax, .int p0, .int p1]) (n := 6) (Nat.le_of_ble_eq_true rfl)
  rw [lg_entry_eq]
  generalize (lg_sl ([.ref ax, .int p0, .int p1]) ++ List.replicate (6 - (lg_sl ([.ref ax, .int p0, .int p1])).length) Slot.unset).toArray = ls at hl ⊢
  replace hl : lv_has ls 6 [(0, .ref ax), (1, .int p0), (2, .int p1)] := hl
  replace hP : va_P (dC, dI) vwCl [(ax, .inr (5, [.int vxn, .ref axr, .ref axb, .ref axj, .int vxk, .ref axi, .ref axu, .long vxA, .long vxB, .long vxC, .long vxE])), (axi, .inl (cy, 8, .inl fxi)), (axu, .inl (cy, 8, .inl fxu))] s.heap := hP
  obtain ⟨locs, hlocs⟩ : ∃ lc : List Loc, lc = [] := ⟨_, rfl⟩
  rw [← hlocs] at hS ⊢
  obtain ⟨H, hH⟩ : ∃ H : Heap, H = s.heap := ⟨_, rfl⟩
  have hP2 := hP; rw [← hH] at hP2
  have hS2 : va_S A s.heap H locs := by rw [hH]; exact hS
  suffices hgo : W p l e (headSpec wsX5_findWorst ({ frames := 3, cells := 0, slots := 0, locals := 73 })).room s m (([.ref ax, .int p0, .int p1] : List Value).toArray) below meth c H locs 0 0 (MQ below (va_Qi (fun (r : Int32) (_ : Unit) => r = res.1) (QW (dC, dI) cy A [(ax, .inr (5, [.int vxn, .ref axr, .ref axb, .ref axj, .int vxk, .ref axi, .ref axu, .long res.2.1, .long res.2.2.1, .long res.2.2.2.1, .long res.2.2.2.2.1])), (axi, .inl (cy, 8, .inl res.2.2.2.2.2.1)), (axu, .inl (cy, 8, .inl res.2.2.2.2.2.2))]) A) (([.ref ax, .int p0, .int p1] : List Value).toArray) s 0 0 A) (F0 m 0 ls []) by rw [hH] at hgo; exact hgo
  replace hP := hP2
  replace hS := hS2
  clear hP2 hS2
  have hin_X5 : ∀ w ∈ wsX50, w ∈ wsX5_findWorst := by decide +kernel
  have hf_7 := hts (.fieldLink RX5 7 "FewLooksModel" "n" "I") (by decide +kernel)
  have hf_26 := hts (.fieldLink RX5 26 "FewLooksModel" "it" "[I") (by decide +kernel)
  have hf_107 := hts (.fieldLink RX5 107 "FewLooksModel" "above" "J") (by decide +kernel)
  have hf_111 := hts (.fieldLink RX5 111 "FewLooksModel" "below" "J") (by decide +kernel)
  have hf_139 := hts (.fieldLink RX5 139 "FewLooksModel" "worstBelow" "J") (by decide +kernel)
  have hf_142 := hts (.fieldLink RX5 142 "FewLooksModel" "worstAbove" "J") (by decide +kernel)
  unfold fX5_findWorst at h
  refine lv_iconst (v := (-1 : Int32)) hx hb dX5_findWorst_0 (by decide) ?_
  refine lv_istore_n (lv' := [(3, .int (-1 : Int32)), (0, .ref ax), (1, .int p0), (2, .int p1)]) hx hb dX5_findWorst_1 rfl hl (by decide) rfl (fun ls hl => ?_)
  refine lv_iconst (v := (0 : Int32)) hx hb dX5_findWorst_2 (by decide) ?_
  refine lv_istore (lv' := [(4, .int (0 : Int32)), (3, .int (-1 : Int32)), (0, .ref ax), (1, .int p0), (2, .int p1)]) hx hb dX5_findWorst_3 hl (by decide) rfl (fun ls hl => ?_)
  have L5_9 : ∀ (n : Nat) (l1 : Int32) (l2 : Int32) (l3 : Int32) (l4 : Int32) (vxA : Int64) (vxB : Int64) (vxC : Int64) (vxE : Int64) (fxi : Nat → Int32) (fxu : Nat → Int32) (rs : (Int32 × Int32 × Int64 × Int64 × Int64 × Int64 × (Nat → Int32) × (Nat → Int32))) (H : Heap) (locs : List Loc) (ls : Array Slot), fX5_findWorst_L5 n l1 l2 l3 l4 vxn vxA vxB vxC vxE fxi fxu = some rs → lv_has ls 6 [(0, .ref ax), (1, .int l1), (2, .int l2), (3, .int l3), (4, .int l4)] → va_P (dC, dI) vwCl [(ax, .inr (5, [.int vxn, .ref axr, .ref axb, .ref axj, .int vxk, .ref axi, .ref axu, .long vxA, .long vxB, .long vxC, .long vxE])), (axi, .inl (cy, 8, .inl fxi)), (axu, .inl (cy, 8, .inl fxu))] H → va_D A [(ax, .inr (5, [.int vxn, .ref axr, .ref axb, .ref axj, .int vxk, .ref axi, .ref axu, .long vxA, .long vxB, .long vxC, .long vxE])), (axi, .inl (cy, 8, .inl fxi)), (axu, .inl (cy, 8, .inl fxu))] → va_S A s.heap H locs → (∀ (H : Heap) (locs : List Loc) (ls : Array Slot), lv_has ls 6 [(0, .ref ax), (1, .int l1), (2, .int l2), (3, .int rs.1), (4, .int rs.2.1)] → va_P (dC, dI) vwCl [(ax, .inr (5, [.int vxn, .ref axr, .ref axb, .ref axj, .int vxk, .ref axi, .ref axu, .long rs.2.2.1, .long rs.2.2.2.1, .long rs.2.2.2.2.1, .long rs.2.2.2.2.2.1])), (axi, .inl (cy, 8, .inl rs.2.2.2.2.2.2.1)), (axu, .inl (cy, 8, .inl rs.2.2.2.2.2.2.2))] H → va_D A [(ax, .inr (5, [.int vxn, .ref axr, .ref axb, .ref axj, .int vxk, .ref axi, .ref axu, .long rs.2.2.1, .long rs.2.2.2.1, .long rs.2.2.2.2.1, .long rs.2.2.2.2.2.1])), (axi, .inl (cy, 8, .inl rs.2.2.2.2.2.2.1)), (axu, .inl (cy, 8, .inl rs.2.2.2.2.2.2.2))] → va_S A s.heap H locs → W p l e (headSpec wsX5_findWorst ({ frames := 3, cells := 0, slots := 0, locals := 73 })).room s m (([.ref ax, .int p0, .int p1] : List Value).toArray) below meth c H locs 0 0 (MQ below (va_Qi (fun (r : Int32) (_ : Unit) => r = res.1) (QW (dC, dI) cy A [(ax, .inr (5, [.int vxn, .ref axr, .ref axb, .ref axj, .int vxk, .ref axi, .ref axu, .long res.2.1, .long res.2.2.1, .long res.2.2.2.1, .long res.2.2.2.2.1])), (axi, .inl (cy, 8, .inl res.2.2.2.2.2.1)), (axu, .inl (cy, 8, .inl res.2.2.2.2.2.2))]) A) (([.ref ax, .int p0, .int p1] : List Value).toArray) s 0 0 A) (F0 m 121 ls [])) → W p l e (headSpec wsX5_findWorst ({ frames := 3, cells := 0, slots := 0, locals := 73 })).room s m (([.ref ax, .int p0, .int p1] : List Value).toArray) below meth c H locs 0 0 (MQ below (va_Qi (fun (r : Int32) (_ : Unit) => r = res.1) (QW (dC, dI) cy A [(ax, .inr (5, [.int vxn, .ref axr, .ref axb, .ref axj, .int vxk, .ref axi, .ref axu, .long res.2.1, .long res.2.2.1, .long res.2.2.2.1, .long res.2.2.2.2.1])), (axi, .inl (cy, 8, .inl res.2.2.2.2.2.1)), (axu, .inl (cy, 8, .inl res.2.2.2.2.2.2))]) A) (([.ref ax, .int p0, .int p1] : List Value).toArray) s 0 0 A) (F0 m 5 ls []) := by
    intro n
    induction n with
    | zero =>
      intro l1 l2 l3 l4 vxA vxB vxC vxE fxi fxu rs H locs ls h
      rw [fX5_findWorst_L5_0] at h
      cases h
    | succ n ih =>
      intro l1 l2 l3 l4 vxA vxB vxC vxE fxi fxu rs H locs ls h hl hP hD hS K
      rw [fX5_findWorst_L5_s] at h
      refine lv_iload hx hb dX5_findWorst_5 (lv_at hl 4 rfl) ?_
      refine lv_iconst (v := (1 : Int32)) hx hb dX5_findWorst_7 (by decide) ?_
      refine lv_aload_n hx hb dX5_findWorst_8 rfl (lv_at hl 0 rfl) ?_
      refine va_get (D := (dC, dI)) (ci := 5) (v := .int vxn) (C := RX5) (T := TX5) (N := 11) hx hb hts hin_X5 hown hK hP 0 rfl rfl 0 (by decide) (hf_7) (fun _ h9 => h9) rfl dX5_findWorst_9 ?_
      refine lv_ishl hx hb dX5_findWorst_12 ?_
      refine lv_icmp_ge (tgt := 121) hx hb dX5_findWorst_13 (by decide) (fun c9 => ?_) (fun c9 => ?_)
      · rw [if_pos c9] at h
        have h0 := Option.some.inj h
        subst h0
        exact K H locs ls (lv_sub hl [0, 1, 2, 3, 4] rfl) hP hD hS
      · rw [if_neg c9] at h
        refine lv_iconst (v := (0 : Int32)) hx hb dX5_findWorst_16 (by decide) ?_
        refine lv_istore (lv' := [(5, .int (0 : Int32)), (0, .ref ax), (1, .int l1), (2, .int l2), (3, .int l3), (4, .int l4)]) hx hb dX5_findWorst_17 hl (by decide) rfl (fun ls hl => ?_)
        have L19_1 : ∀ (n : Nat) (l1 : Int32) (l2 : Int32) (l3 : Int32) (l4 : Int32) (l5 : Int32) (vxA : Int64) (vxB : Int64) (vxC : Int64) (vxE : Int64) (fxi : Nat → Int32) (fxu : Nat → Int32) (rs : (Int32 × (Nat → Int32))) (H : Heap) (locs : List Loc) (ls : Array Slot), fX5_findWorst_L19 n l4 l5 vxn fxi = some rs → lv_has ls 6 [(0, .ref ax), (1, .int l1), (2, .int l2), (3, .int l3), (4, .int l4), (5, .int l5)] → va_P (dC, dI) vwCl [(ax, .inr (5, [.int vxn, .ref axr, .ref axb, .ref axj, .int vxk, .ref axi, .ref axu, .long vxA, .long vxB, .long vxC, .long vxE])), (axi, .inl (cy, 8, .inl fxi)), (axu, .inl (cy, 8, .inl fxu))] H → va_D A [(ax, .inr (5, [.int vxn, .ref axr, .ref axb, .ref axj, .int vxk, .ref axi, .ref axu, .long vxA, .long vxB, .long vxC, .long vxE])), (axi, .inl (cy, 8, .inl fxi)), (axu, .inl (cy, 8, .inl fxu))] → va_S A s.heap H locs → (∀ (H : Heap) (locs : List Loc) (ls : Array Slot), lv_has ls 6 [(0, .ref ax), (1, .int l1), (2, .int l2), (3, .int l3), (4, .int l4), (5, .int rs.1)] → va_P (dC, dI) vwCl [(ax, .inr (5, [.int vxn, .ref axr, .ref axb, .ref axj, .int vxk, .ref axi, .ref axu, .long vxA, .long vxB, .long vxC, .long vxE])), (axi, .inl (cy, 8, .inl rs.2)), (axu, .inl (cy, 8, .inl fxu))] H → va_D A [(ax, .inr (5, [.int vxn, .ref axr, .ref axb, .ref axj, .int vxk, .ref axi, .ref axu, .long vxA, .long vxB, .long vxC, .long vxE])), (axi, .inl (cy, 8, .inl rs.2)), (axu, .inl (cy, 8, .inl fxu))] → va_S A s.heap H locs → W p l e (headSpec wsX5_findWorst ({ frames := 3, cells := 0, slots := 0, locals := 73 })).room s m (([.ref ax, .int p0, .int p1] : List Value).toArray) below meth c H locs 0 0 (MQ below (va_Qi (fun (r : Int32) (_ : Unit) => r = res.1) (QW (dC, dI) cy A [(ax, .inr (5, [.int vxn, .ref axr, .ref axb, .ref axj, .int vxk, .ref axi, .ref axu, .long res.2.1, .long res.2.2.1, .long res.2.2.2.1, .long res.2.2.2.2.1])), (axi, .inl (cy, 8, .inl res.2.2.2.2.2.1)), (axu, .inl (cy, 8, .inl res.2.2.2.2.2.2))]) A) (([.ref ax, .int p0, .int p1] : List Value).toArray) s 0 0 A) (F0 m 55 ls [])) → W p l e (headSpec wsX5_findWorst ({ frames := 3, cells := 0, slots := 0, locals := 73 })).room s m (([.ref ax, .int p0, .int p1] : List Value).toArray) below meth c H locs 0 0 (MQ below (va_Qi (fun (r : Int32) (_ : Unit) => r = res.1) (QW (dC, dI) cy A [(ax, .inr (5, [.int vxn, .ref axr, .ref axb, .ref axj, .int vxk, .ref axi, .ref axu, .long res.2.1, .long res.2.2.1, .long res.2.2.2.1, .long res.2.2.2.2.1])), (axi, .inl (cy, 8, .inl res.2.2.2.2.2.1)), (axu, .inl (cy, 8, .inl res.2.2.2.2.2.2))]) A) (([.ref ax, .int p0, .int p1] : List Value).toArray) s 0 0 A) (F0 m 19 ls []) := by
          intro n
          induction n with
          | zero =>
            intro l1 l2 l3 l4 l5 vxA vxB vxC vxE fxi fxu rs H locs ls h
            rw [fX5_findWorst_L19_0] at h
            cases h
          | succ n ih =>
            intro l1 l2 l3 l4 l5 vxA vxB vxC vxE fxi fxu rs H locs ls h hl hP hD hS K
            rw [fX5_findWorst_L19_s] at h
            refine lv_iload hx hb dX5_findWorst_19 (lv_at hl 5 rfl) ?_
            refine lv_aload_n hx hb dX5_findWorst_21 rfl (lv_at hl 0 rfl) ?_
            refine va_get (D := (dC, dI)) (ci := 5) (v := .int vxn) (C := RX5) (T := TX5) (N := 11) hx hb hts hin_X5 hown hK hP 0 rfl rfl 0 (by decide) (hf_7) (fun _ h9 => h9) rfl dX5_findWorst_22 ?_
            refine lv_icmp_ge (tgt := 55) hx hb dX5_findWorst_25 (by decide) (fun c1 => ?_) (fun c1 => ?_)
            · rw [if_pos c1] at h
              have h0 := Option.some.inj h
              subst h0
              exact K H locs ls (lv_sub hl [0, 1, 2, 3, 4, 5] rfl) hP hD hS
            · rw [if_neg c1] at h
              refine lv_aload_n hx hb dX5_findWorst_28 rfl (lv_at hl 0 rfl) ?_
              refine va_get (D := (dC, dI)) (ci := 5) (v := .ref axi) (C := RX5) (T := TX5) (N := 11) hx hb hts hin_X5 hown hK hP 0 rfl rfl 5 (by decide) (hf_26) (fun _ h9 => h9) rfl dX5_findWorst_29 ?_
              refine lv_iload hx hb dX5_findWorst_32 (lv_at hl 5 rfl) ?_
              refine lv_iload hx hb dX5_findWorst_34 (lv_at hl 4 rfl) ?_
              refine lv_aload_n hx hb dX5_findWorst_36 rfl (lv_at hl 0 rfl) ?_
              refine va_get (D := (dC, dI)) (ci := 5) (v := .int vxn) (C := RX5) (T := TX5) (N := 11) hx hb hts hin_X5 hown hK hP 0 rfl rfl 0 (by decide) (hf_7) (fun _ h9 => h9) rfl dX5_findWorst_37 ?_
              refine lv_iconst (v := (1 : Int32)) hx hb dX5_findWorst_40 (by decide) ?_
              refine lv_isub hx hb dX5_findWorst_41 ?_
              refine lv_iload hx hb dX5_findWorst_42 (lv_at hl 5 rfl) ?_
              refine lv_isub hx hb dX5_findWorst_44 ?_
              refine lv_ishr hx hb dX5_findWorst_45 ?_
              refine lv_iconst (v := (1 : Int32)) hx hb dX5_findWorst_46 (by decide) ?_
              refine lv_iand hx hb dX5_findWorst_47 ?_
              obtain ⟨hi, h⟩ := gin_some h
              refine va_iast hx hb hK hP hD hS 1 0 rfl rfl hi dX5_findWorst_48 (fun H locs hP hD hS => ?_)
              replace hP : va_P (dC, dI) vwCl [(ax, .inr (5, [.int vxn, .ref axr, .ref axb, .ref axj, .int vxk, .ref axi, .ref axu, .long vxA, .long vxB, .long vxC, .long vxE])), (axi, .inl (cy, 8, .inl (upd fxi l5.toNatClampNeg ((l4 >>> (((vxn - (1 : Int32)) - l5) &&& 31)) &&& (1 : Int32))))), (axu, .inl (cy, 8, .inl fxu))] H := hP
              replace hD : va_D A [(ax, .inr (5, [.int vxn, .ref axr, .ref axb, .ref axj, .int vxk, .ref axi, .ref axu, .long vxA, .long vxB, .long vxC, .long vxE])), (axi, .inl (cy, 8, .inl (upd fxi l5.toNatClampNeg ((l4 >>> (((vxn - (1 : Int32)) - l5) &&& 31)) &&& (1 : Int32))))), (axu, .inl (cy, 8, .inl fxu))] := hD
              refine lv_iinc (v := l5 + (1 : Int32)) (lv' := [(5, .int (l5 + (1 : Int32))), (0, .ref ax), (1, .int l1), (2, .int l2), (3, .int l3), (4, .int l4)]) hx hb dX5_findWorst_49 hl (k := 5) rfl rfl (by decide) rfl (fun ls hl => ?_)
              refine lv_goto (tgt := 19) hx hb dX5_findWorst_52 (by decide) ?_
              exact ih l1 l2 l3 l4 (l5 + (1 : Int32)) vxA vxB vxC vxE (upd fxi l5.toNatClampNeg ((l4 >>> (((vxn - (1 : Int32)) - l5) &&& 31)) &&& (1 : Int32))) fxu rs H locs ls h (lv_sub hl [1, 2, 3, 4, 5, 0] rfl) hP hD hS K
        obtain ⟨q3, hq3, h⟩ := bd_some h
        refine L19_1 FU l1 l2 l3 l4 (0 : Int32) vxA vxB vxC vxE fxi fxu q3 H locs ls hq3 (lv_sub hl [1, 2, 3, 4, 5, 0] rfl) hP hD hS (fun H locs ls hl hP hD hS => ?_)
        refine lv_aload_n hx hb dX5_findWorst_55 rfl (lv_at hl 0 rfl) ?_
        refine lv_iload_n hx hb dX5_findWorst_56 rfl (lv_at hl 1 rfl) ?_
        obtain ⟨r4, hr4, h⟩ := bd_some h
        have hFc := va_free (wc := [(ax, .inr (5, [.int vxn, .ref axr, .ref axb, .ref axj, .int vxk, .ref axi, .ref axu, .long vxA, .long vxB, .long vxC, .long vxE])), (axi, .inl (cy, 8, .inl q3.2)), (axu, .inl (cy, 8, .inl fxu))]) hD hS hA [0, 1, 2] rfl
        refine va_calli (va_runV (As := [.int l1]) (rest := []) ⟨hx, hb, hml, hown, hts⟩ (c_X5_fromKind l dC dI cy ax axr axb axj axi axu H.size vxn vxk vxA vxB vxC vxE q3.2 fxu l1 r4 hr4) (cwV 1 hts gX5_findWorst_X5_fromKind rfl rfl rfl (by decide +kernel) ⟨Nat.le_of_ble_eq_true rfl, Nat.le_of_ble_eq_true rfl⟩) ⟨PW_fb, va_recv hK hP (ci := 5) (q0 := 0) rfl rfl, PW_pre (hP.sub (ws' := [(ax, .inr (5, [.int vxn, .ref axr, .ref axb, .ref axj, .int vxk, .ref axi, .ref axu, .long vxA, .long vxB, .long vxC, .long vxE])), (axi, .inl (cy, 8, .inl q3.2)), (axu, .inl (cy, 8, .inl fxu))]) [0, 1, 2] rfl) hK (hD.sub [0, 1, 2] (by decide) rfl) hN⟩ rfl rfl hl.1 rfl (lv_room (Nat.le_of_ble_eq_true rfl)) dX5_findWorst_57 ⟨Nat.zero_le _, Nat.zero_le _⟩) hS (fun q _ h => hFc q h) hFc (fun rz u t H locs ht hvm hw hB hz1 hk1 hS => ?_)
        obtain ⟨hP, hD⟩ := jn (wr := []) (w1 := [(ax, .inr (5, [.int vxn, .ref axr, .ref axb, .ref axj, .int vxk, .ref axi, .ref axu, .long vxA, .long vxB, .long vxC, .long vxE])), (axi, .inl (cy, 8, .inl q3.2)), (axu, .inl (cy, 8, .inl r4.2))]) (ws' := [(ax, .inr (5, [.int vxn, .ref axr, .ref axb, .ref axj, .int vxk, .ref axi, .ref axu, .long vxA, .long vxB, .long vxC, .long vxE])), (axi, .inl (cy, 8, .inl q3.2)), (axu, .inl (cy, 8, .inl r4.2))]) hP hD [0, 1, 2] [] rfl rfl (by decide) (by decide) hk1 hFc hB ht [0, 1, 2] rfl (by decide) rfl
        replace hw := hw.symm
        subst hw
        clear hFc hB hk1 hz1 hvm
        refine lv_iload_n hx hb dX5_findWorst_60 rfl (lv_at hl 2 rfl) ?_
        refine lv_icmp_lt (tgt := 115) hx hb dX5_findWorst_61 (by decide) (fun c8 => ?_) (fun c8 => ?_)
        · rw [if_pos c8] at h
          refine lv_iinc (v := l4 + (1 : Int32)) (lv' := [(4, .int (l4 + (1 : Int32))), (0, .ref ax), (1, .int l1), (2, .int l2), (3, .int l3), (5, .int q3.1)]) hx hb dX5_findWorst_115 hl (k := 4) rfl rfl (by decide) rfl (fun ls hl => ?_)
          refine lv_goto (tgt := 5) hx hb dX5_findWorst_118 (by decide) ?_
          exact ih l1 l2 l3 (l4 + (1 : Int32)) vxA vxB vxC vxE q3.2 r4.2 rs H locs ls h (lv_sub hl [1, 2, 3, 4, 0] rfl) hP hD hS K
        · rw [if_neg c8] at h
          refine lv_aload_n hx hb dX5_findWorst_64 rfl (lv_at hl 0 rfl) ?_
          refine lv_iload_n hx hb dX5_findWorst_65 rfl (lv_at hl 1 rfl) ?_
          obtain ⟨r5, hr5, h⟩ := bd_some h
          have hFc := va_free (wc := [(ax, .inr (5, [.int vxn, .ref axr, .ref axb, .ref axj, .int vxk, .ref axi, .ref axu, .long vxA, .long vxB, .long vxC, .long vxE])), (axi, .inl (cy, 8, .inl q3.2))]) hD hS hA [0, 1] rfl
          refine va_callv (va_runV (As := [.int l1]) (rest := []) ⟨hx, hb, hml, hown, hts⟩ (c_X5_countRow l dC dI cy ax axr axb axj axi axu H.size vxn vxk vxA vxB vxC vxE q3.2 l1 r5 hr5) (cwV 1 hts gX5_findWorst_X5_countRow rfl rfl rfl (by decide +kernel) ⟨Nat.le_of_ble_eq_true rfl, Nat.le_of_ble_eq_true rfl⟩) ⟨PW_fb, va_recv hK hP (ci := 5) (q0 := 0) rfl rfl, PW_pre (hP.sub (ws' := [(ax, .inr (5, [.int vxn, .ref axr, .ref axb, .ref axj, .int vxk, .ref axi, .ref axu, .long vxA, .long vxB, .long vxC, .long vxE])), (axi, .inl (cy, 8, .inl q3.2))]) [0, 1] rfl) hK (hD.sub [0, 1] (by decide) rfl) hN⟩ rfl rfl hl.1 rfl (lv_room (Nat.le_of_ble_eq_true rfl)) dX5_findWorst_66 ⟨Nat.zero_le _, Nat.zero_le _⟩) hS (fun q _ h => hFc q h) hFc (fun u t H locs ht hvm hw hB hz1 hk1 hS => ?_)
          obtain ⟨hP, hD⟩ := jn (wr := [(axu, .inl (cy, 8, .inl r4.2))]) (w1 := [(ax, .inr (5, [.int vxn, .ref axr, .ref axb, .ref axj, .int vxk, .ref axi, .ref axu, .long r5.1, .long r5.2, .long vxC, .long vxE])), (axi, .inl (cy, 8, .inl q3.2))]) (ws' := [(ax, .inr (5, [.int vxn, .ref axr, .ref axb, .ref axj, .int vxk, .ref axi, .ref axu, .long r5.1, .long r5.2, .long vxC, .long vxE])), (axi, .inl (cy, 8, .inl q3.2)), (axu, .inl (cy, 8, .inl r4.2))]) hP hD [0, 1] [2] rfl rfl (by decide) (by decide) hk1 hFc hB ht [1, 2, 0] rfl (by decide) rfl
          clear hFc hB hk1 hz1 hvm
          refine lv_iload_n hx hb dX5_findWorst_69 rfl (lv_at hl 3 rfl) ?_
          refine lv_iconst (v := (-1 : Int32)) hx hb dX5_findWorst_70 (by decide) ?_
          refine lv_icmp_eq (tgt := 96) hx hb dX5_findWorst_71 (by decide) (fun c7 => ?_) (fun c7 => ?_)
          · rw [if_pos c7] at h
            refine lv_iload hx hb dX5_findWorst_96 (lv_at hl 4 rfl) ?_
            refine lv_istore_n (lv' := [(3, .int l4), (0, .ref ax), (1, .int l1), (2, .int l2), (4, .int l4), (5, .int q3.1)]) hx hb dX5_findWorst_98 rfl hl (by decide) rfl (fun ls hl => ?_)
            refine lv_aload_n hx hb dX5_findWorst_99 rfl (lv_at hl 1 rfl) ?_
            refine lv_aload_n hx hb dX5_findWorst_100 rfl (lv_at hl 1 rfl) ?_
            refine va_get (D := (dC, dI)) (ci := 5) (v := .long r5.1) (C := RX5) (T := TX5) (N := 11) hx hb hts hin_X5 hown hK hP 0 rfl rfl 7 (by decide) (hf_107) (fun _ h9 => h9) rfl dX5_findWorst_101 ?_
            refine va_put (D := (dC, dI)) (ci := 5) (v := .long r5.1) (ty := .long) (C := RX5) (T := TX5) (N := 11) hx hb hts hin_X5 tyX5 tyX5_ok nmX5 hown hK hP hD hS 0 rfl rfl 9 (by decide) (hf_142) (fun _ h9 => h9) rfl (by decide +kernel) rfl rfl (Nat.le_of_ble_eq_true rfl) dX5_findWorst_104 (fun H locs hP hD hS => ?_)
            replace hP : va_P (dC, dI) vwCl [(ax, .inr (5, [.int vxn, .ref axr, .ref axb, .ref axj, .int vxk, .ref axi, .ref axu, .long r5.1, .long r5.2, .long r5.1, .long vxE])), (axi, .inl (cy, 8, .inl q3.2)), (axu, .inl (cy, 8, .inl r4.2))] H := hP
            replace hD : va_D A [(ax, .inr (5, [.int vxn, .ref axr, .ref axb, .ref axj, .int vxk, .ref axi, .ref axu, .long r5.1, .long r5.2, .long r5.1, .long vxE])), (axi, .inl (cy, 8, .inl q3.2)), (axu, .inl (cy, 8, .inl r4.2))] := hD
            refine lv_aload_n hx hb dX5_findWorst_107 rfl (lv_at hl 1 rfl) ?_
            refine lv_aload_n hx hb dX5_findWorst_108 rfl (lv_at hl 1 rfl) ?_
            refine va_get (D := (dC, dI)) (ci := 5) (v := .long r5.2) (C := RX5) (T := TX5) (N := 11) hx hb hts hin_X5 hown hK hP 0 rfl rfl 8 (by decide) (hf_111) (fun _ h9 => h9) rfl dX5_findWorst_109 ?_
            refine va_put (D := (dC, dI)) (ci := 5) (v := .long r5.2) (ty := .long) (C := RX5) (T := TX5) (N := 11) hx hb hts hin_X5 tyX5 tyX5_ok nmX5 hown hK hP hD hS 0 rfl rfl 10 (by decide) (hf_139) (fun _ h9 => h9) rfl (by decide +kernel) rfl rfl (Nat.le_of_ble_eq_true rfl) dX5_findWorst_112 (fun H locs hP hD hS => ?_)
            replace hP : va_P (dC, dI) vwCl [(ax, .inr (5, [.int vxn, .ref axr, .ref axb, .ref axj, .int vxk, .ref axi, .ref axu, .long r5.1, .long r5.2, .long r5.1, .long r5.2])), (axi, .inl (cy, 8, .inl q3.2)), (axu, .inl (cy, 8, .inl r4.2))] H := hP
            replace hD : va_D A [(ax, .inr (5, [.int vxn, .ref axr, .ref axb, .ref axj, .int vxk, .ref axi, .ref axu, .long r5.1, .long r5.2, .long r5.1, .long r5.2])), (axi, .inl (cy, 8, .inl q3.2)), (axu, .inl (cy, 8, .inl r4.2))] := hD
            refine lv_iinc (v := l4 + (1 : Int32)) (lv' := [(4, .int (l4 + (1 : Int32))), (3, .int l4), (0, .ref ax), (1, .int l1), (2, .int l2), (5, .int q3.1)]) hx hb dX5_findWorst_115 hl (k := 4) rfl rfl (by decide) rfl (fun ls hl => ?_)
            refine lv_goto (tgt := 5) hx hb dX5_findWorst_118 (by decide) ?_
            exact ih l1 l2 l4 (l4 + (1 : Int32)) r5.1 r5.2 r5.1 r5.2 q3.2 r4.2 rs H locs ls h (lv_sub hl [2, 3, 4, 1, 0] rfl) hP hD hS K
          · rw [if_neg c7] at h
            refine lv_aload_n hx hb dX5_findWorst_74 rfl (lv_at hl 0 rfl) ?_
            refine va_get (D := (dC, dI)) (ci := 5) (v := .long r5.1) (C := RX5) (T := TX5) (N := 11) hx hb hts hin_X5 hown hK hP 0 rfl rfl 7 (by decide) (hf_107) (fun _ h9 => h9) rfl dX5_findWorst_75 ?_
            refine lv_aload_n hx hb dX5_findWorst_78 rfl (lv_at hl 0 rfl) ?_
            refine va_get (D := (dC, dI)) (ci := 5) (v := .long vxE) (C := RX5) (T := TX5) (N := 11) hx hb hts hin_X5 hown hK hP 0 rfl rfl 10 (by decide) (hf_139) (fun _ h9 => h9) rfl dX5_findWorst_79 ?_
            refine lv_lmul hx hb dX5_findWorst_82 ?_
            refine lv_aload_n hx hb dX5_findWorst_83 rfl (lv_at hl 0 rfl) ?_
            refine va_get (D := (dC, dI)) (ci := 5) (v := .long vxC) (C := RX5) (T := TX5) (N := 11) hx hb hts hin_X5 hown hK hP 0 rfl rfl 9 (by decide) (hf_142) (fun _ h9 => h9) rfl dX5_findWorst_84 ?_
            refine lv_aload_n hx hb dX5_findWorst_87 rfl (lv_at hl 0 rfl) ?_
            refine va_get (D := (dC, dI)) (ci := 5) (v := .long r5.2) (C := RX5) (T := TX5) (N := 11) hx hb hts hin_X5 hown hK hP 0 rfl rfl 8 (by decide) (hf_111) (fun _ h9 => h9) rfl dX5_findWorst_88 ?_
            refine lv_lmul hx hb dX5_findWorst_91 ?_
            refine W.lcmp hx hb dX5_findWorst_92 ?_
            refine lv_if_le (tgt := 115) hx hb dX5_findWorst_93 (by decide) (fun c6 => ?_) (fun c6 => ?_)
            · rw [if_pos c6] at h
              refine lv_iinc (v := l4 + (1 : Int32)) (lv' := [(4, .int (l4 + (1 : Int32))), (0, .ref ax), (1, .int l1), (2, .int l2), (3, .int l3), (5, .int q3.1)]) hx hb dX5_findWorst_115 hl (k := 4) rfl rfl (by decide) rfl (fun ls hl => ?_)
              refine lv_goto (tgt := 5) hx hb dX5_findWorst_118 (by decide) ?_
              exact ih l1 l2 l3 (l4 + (1 : Int32)) r5.1 r5.2 vxC vxE q3.2 r4.2 rs H locs ls h (lv_sub hl [1, 2, 3, 4, 0] rfl) hP hD hS K
            · rw [if_neg c6] at h
              refine lv_iload hx hb dX5_findWorst_96 (lv_at hl 4 rfl) ?_
              refine lv_istore_n (lv' := [(3, .int l4), (0, .ref ax), (1, .int l1), (2, .int l2), (4, .int l4), (5, .int q3.1)]) hx hb dX5_findWorst_98 rfl hl (by decide) rfl (fun ls hl => ?_)
              refine lv_aload_n hx hb dX5_findWorst_99 rfl (lv_at hl 1 rfl) ?_
              refine lv_aload_n hx hb dX5_findWorst_100 rfl (lv_at hl 1 rfl) ?_
              refine va_get (D := (dC, dI)) (ci := 5) (v := .long r5.1) (C := RX5) (T := TX5) (N := 11) hx hb hts hin_X5 hown hK hP 0 rfl rfl 7 (by decide) (hf_107) (fun _ h9 => h9) rfl dX5_findWorst_101 ?_
              refine va_put (D := (dC, dI)) (ci := 5) (v := .long r5.1) (ty := .long) (C := RX5) (T := TX5) (N := 11) hx hb hts hin_X5 tyX5 tyX5_ok nmX5 hown hK hP hD hS 0 rfl rfl 9 (by decide) (hf_142) (fun _ h9 => h9) rfl (by decide +kernel) rfl rfl (Nat.le_of_ble_eq_true rfl) dX5_findWorst_104 (fun H locs hP hD hS => ?_)
              replace hP : va_P (dC, dI) vwCl [(ax, .inr (5, [.int vxn, .ref axr, .ref axb, .ref axj, .int vxk, .ref axi, .ref axu, .long r5.1, .long r5.2, .long r5.1, .long vxE])), (axi, .inl (cy, 8, .inl q3.2)), (axu, .inl (cy, 8, .inl r4.2))] H := hP
              replace hD : va_D A [(ax, .inr (5, [.int vxn, .ref axr, .ref axb, .ref axj, .int vxk, .ref axi, .ref axu, .long r5.1, .long r5.2, .long r5.1, .long vxE])), (axi, .inl (cy, 8, .inl q3.2)), (axu, .inl (cy, 8, .inl r4.2))] := hD
              refine lv_aload_n hx hb dX5_findWorst_107 rfl (lv_at hl 1 rfl) ?_
              refine lv_aload_n hx hb dX5_findWorst_108 rfl (lv_at hl 1 rfl) ?_
              refine va_get (D := (dC, dI)) (ci := 5) (v := .long r5.2) (C := RX5) (T := TX5) (N := 11) hx hb hts hin_X5 hown hK hP 0 rfl rfl 8 (by decide) (hf_111) (fun _ h9 => h9) rfl dX5_findWorst_109 ?_
              refine va_put (D := (dC, dI)) (ci := 5) (v := .long r5.2) (ty := .long) (C := RX5) (T := TX5) (N := 11) hx hb hts hin_X5 tyX5 tyX5_ok nmX5 hown hK hP hD hS 0 rfl rfl 10 (by decide) (hf_139) (fun _ h9 => h9) rfl (by decide +kernel) rfl rfl (Nat.le_of_ble_eq_true rfl) dX5_findWorst_112 (fun H locs hP hD hS => ?_)
              replace hP : va_P (dC, dI) vwCl [(ax, .inr (5, [.int vxn, .ref axr, .ref axb, .ref axj, .int vxk, .ref axi, .ref axu, .long r5.1, .long r5.2, .long r5.1, .long r5.2])), (axi, .inl (cy, 8, .inl q3.2)), (axu, .inl (cy, 8, .inl r4.2))] H := hP
              replace hD : va_D A [(ax, .inr (5, [.int vxn, .ref axr, .ref axb, .ref axj, .int vxk, .ref axi, .ref axu, .long r5.1, .long r5.2, .long r5.1, .long r5.2])), (axi, .inl (cy, 8, .inl q3.2)), (axu, .inl (cy, 8, .inl r4.2))] := hD
              refine lv_iinc (v := l4 + (1 : Int32)) (lv' := [(4, .int (l4 + (1 : Int32))), (3, .int l4), (0, .ref ax), (1, .int l1), (2, .int l2), (5, .int q3.1)]) hx hb dX5_findWorst_115 hl (k := 4) rfl rfl (by decide) rfl (fun ls hl => ?_)
              refine lv_goto (tgt := 5) hx hb dX5_findWorst_118 (by decide) ?_
              exact ih l1 l2 l4 (l4 + (1 : Int32)) r5.1 r5.2 r5.1 r5.2 q3.2 r4.2 rs H locs ls h (lv_sub hl [2, 3, 4, 1, 0] rfl) hP hD hS K
  obtain ⟨q11, hq11, h⟩ := bd_some h
  refine L5_9 FU p0 p1 (-1 : Int32) (0 : Int32) vxA vxB vxC vxE fxi fxu q11 H locs ls hq11 (lv_sub hl [2, 3, 4, 1, 0] rfl) hP hD hS (fun H locs ls hl hP hD hS => ?_)
  refine lv_iload_n hx hb dX5_findWorst_121 rfl (lv_at hl 3 rfl) ?_
  have h0 := Option.some.inj h
  subst h0
  exact W.iret hx hb hr (fun t ht hW => ⟨⟨_, (), rfl, rfl, QW_mk hP hK hD ht hW⟩, hS.F ht⟩) hS.2.2 dX5_findWorst_122

noncomputable def fX5_worst (vxn : Int32) (vxA : Int64) (vxB : Int64) (vxC : Int64) (vxE : Int64) (fxi : Nat → Int32) (fxu : Nat → Int32) (p0 : Int32) (p1 : Int32) (p2 : Int32) (p3 : Int32) : Option (Int32 × Int64 × Int64 × Int64 × Int64 × (Nat → Int32) × (Nat → Int32)) := bd (fX5_in p0 (0 : Int32) (3 : Int32)) fun r1 => if r1 = 0 then (some ((-2 : Int32), vxA, vxB, vxC, vxE, fxi, fxu)) else (bd (fX5_in p1 (0 : Int32) (8 : Int32)) fun r2 => if r2 = 0 then (some ((-2 : Int32), vxA, vxB, vxC, vxE, fxi, fxu)) else (bd (fX5_in p3 (0 : Int32) (2 : Int32)) fun r3 => if r3 = 0 then (some ((-2 : Int32), vxA, vxB, vxC, vxE, fxi, fxu)) else (if p3 = 0 then (bd (fX5_isPlace vxn p2) fun r10 => if r10 = 0 then (some ((-2 : Int32), vxA, vxB, vxC, vxE, fxi, fxu)) else (bd (fX5_findWorst vxn vxA vxB vxC vxE fxi fxu p0 p1) fun r11 => if r11.1 = (-1 : Int32) then (some ((-1 : Int32), r11.2.1, r11.2.2.1, r11.2.2.2.1, r11.2.2.2.2.1, r11.2.2.2.2.2.1, r11.2.2.2.2.2.2)) else (if p3 = 0 then (some ((r11.1 >>> (((vxn - (1 : Int32)) - p2) &&& 31)) &&& (1 : Int32), r11.2.1, r11.2.2.1, r11.2.2.2.1, r11.2.2.2.2.1, r11.2.2.2.2.2.1, r11.2.2.2.2.2.2)) else (bd (fX5_reduce r11.2.2.2.1 r11.2.2.2.2.1) fun r12 => if p3 = (1 : Int32) then (some (r12.1.toInt32, r12.1, r12.2, r11.2.2.2.1, r11.2.2.2.2.1, r11.2.2.2.2.2.1, r11.2.2.2.2.2.2)) else (some (r12.2.toInt32, r12.1, r12.2, r11.2.2.2.1, r11.2.2.2.2.1, r11.2.2.2.2.2.1, r11.2.2.2.2.2.2)))))) else (if p2 = 0 then (bd (fX5_findWorst vxn vxA vxB vxC vxE fxi fxu p0 p1) fun r4 => if r4.1 = (-1 : Int32) then (some ((-1 : Int32), r4.2.1, r4.2.2.1, r4.2.2.2.1, r4.2.2.2.2.1, r4.2.2.2.2.2.1, r4.2.2.2.2.2.2)) else (if p3 = 0 then (some ((r4.1 >>> (((vxn - (1 : Int32)) - p2) &&& 31)) &&& (1 : Int32), r4.2.1, r4.2.2.1, r4.2.2.2.1, r4.2.2.2.2.1, r4.2.2.2.2.2.1, r4.2.2.2.2.2.2)) else (bd (fX5_reduce r4.2.2.2.1 r4.2.2.2.2.1) fun r5 => if p3 = (1 : Int32) then (some (r5.1.toInt32, r5.1, r5.2, r4.2.2.2.1, r4.2.2.2.2.1, r4.2.2.2.2.2.1, r4.2.2.2.2.2.2)) else (some (r5.2.toInt32, r5.1, r5.2, r4.2.2.2.1, r4.2.2.2.2.1, r4.2.2.2.2.2.1, r4.2.2.2.2.2.2))))) else (some ((-2 : Int32), vxA, vxB, vxC, vxE, fxi, fxu))))))
set_option maxHeartbeats 4000000 in
set_option maxRecDepth 100000 in
theorem c_X5_worst (l : Launch) (dC : Nat → ClassId) (dI : Nat → Nat → Nat) (cy : ClassId) (ax axr axb axj axi axu : Nat) (sz : Nat) (vxn : Int32) (vxk : Int32) (vxA : Int64) (vxB : Int64) (vxC : Int64) (vxE : Int64) (fxi : Nat → Int32) (fxu : Nat → Int32) (p0 : Int32) (p1 : Int32) (p2 : Int32) (p3 : Int32) (res : Int32 × Int64 × Int64 × Int64 × Int64 × (Nat → Int32) × (Nat → Int32)) (h : fX5_worst vxn vxA vxB vxC vxE fxi fxu p0 p1 p2 p3 = some res) : Met l yX5_worst wsX5_worst ({ frames := 4, cells := 0, slots := 0, locals := 98 }) (va_Pc [.ref ax, .int p0, .int p1, .int p2, .int p3] (PW (dC, dI) cy sz [(ax, .inr (5, [.int vxn, .ref axr, .ref axb, .ref axj, .int vxk, .ref axi, .ref axu, .long vxA, .long vxB, .long vxC, .long vxE])), (axi, .inl (cy, 8, .inl fxi)), (axu, .inl (cy, 8, .inl fxu))])) (va_Qi (fun (r : Int32) (_ : Unit) => r = res.1) (QW (dC, dI) cy (va_A [(ax, .inr (5, [.int vxn, .ref axr, .ref axb, .ref axj, .int vxk, .ref axi, .ref axu, .long vxA, .long vxB, .long vxC, .long vxE])), (axi, .inl (cy, 8, .inl fxi)), (axu, .inl (cy, 8, .inl fxu))] sz) [(ax, .inr (5, [.int vxn, .ref axr, .ref axb, .ref axj, .int vxk, .ref axi, .ref axu, .long res.2.1, .long res.2.2.1, .long res.2.2.2.1, .long res.2.2.2.2.1])), (axi, .inl (cy, 8, .inl res.2.2.2.2.2.1)), (axu, .inl (cy, 8, .inl res.2.2.2.2.2.2))]) (va_A [(ax, .inr (5, [.int vxn, .ref axr, .ref axb, .ref axj, .int vxk, .ref axi, .ref axu, .long vxA, .long vxB, .long vxC, .long vxE])), (axi, .inl (cy, 8, .inl fxi)), (axu, .inl (cy, 8, .inl fxu))] sz)) 0 0 (va_A [(ax, .inr (5, [.int vxn, .ref axr, .ref axb, .ref axj, .int vxk, .ref axi, .ref axu, .long vxA, .long vxB, .long vxC, .long vxE])), (axi, .inl (cy, 8, .inl fxi)), (axu, .inl (cy, 8, .inl fxu))] sz) := by
  refine Met.ofW (cc := cX5_worst) (maxL := 6) (ret := (some .int)) (by decide) rfl ?_
  intro p e s m args below meth c s₁ B hml hv
  obtain ⟨rfl, hsz, hP, hK, hD0, hN⟩ := hv
  have hx := B.exec
  have hb := B.bytes
  have hr := B.returns
  have hts := atoms_spec (ws := wsX5_worst) B.pre
  have hown : s.vm.findClass RX5 = some m.cls := findClass_of_methodNamed B.named
  have hlocks := B.notSynchronized
  subst hsz
  have hD := hD0.self (sz := s.heap.size)
  clear hD0
  generalize hAe : va_A [(ax, .inr (5, [.int vxn, .ref axr, .ref axb, .ref axj, .int vxk, .ref axi, .ref axu, .long vxA, .long vxB, .long vxC, .long vxE])), (axi, .inl (cy, 8, .inl fxi)), (axu, .inl (cy, 8, .inl fxu))] s.heap.size = A at hD ⊢
  have hA : ∀ q : Nat, s.heap.size ≤ q → A q := fun q h => by rw [← hAe]; exact Or.inr h
  have hS : va_S A s.heap s.heap [] := va_S.rf
  have hl := lv_entry ([.ref ax, .int p0, .int p1, .int p2, .int p3]) (n := 6) (Nat.le_of_ble_eq_true rfl)
  rw [lg_entry_eq]
  generalize (lg_sl ([.ref ax, .int p0, .int p1, .int p2, .int p3]) ++ List.replicate (6 - (lg_sl ([.ref ax, .int p0, .int p1, .int p2, .int p3])).length) Slot.unset).toArray = ls at hl ⊢
  replace hl : lv_has ls 6 [(0, .ref ax), (1, .int p0), (2, .int p1), (3, .int p2), (4, .int p3)] := hl
  replace hP : va_P (dC, dI) vwCl [(ax, .inr (5, [.int vxn, .ref axr, .ref axb, .ref axj, .int vxk, .ref axi, .ref axu, .long vxA, .long vxB, .long vxC, .long vxE])), (axi, .inl (cy, 8, .inl fxi)), (axu, .inl (cy, 8, .inl fxu))] s.heap := hP
  obtain ⟨locs, hlocs⟩ : ∃ lc : List Loc, lc = [] := ⟨_, rfl⟩
  rw [← hlocs] at hS ⊢
  obtain ⟨H, hH⟩ : ∃ H : Heap, H = s.heap := ⟨_, rfl⟩
  have hP2 := hP; rw [← hH] at hP2
  have hS2 : va_S A s.heap H locs := by rw [hH]; exact hS
  suffices hgo : W p l e (headSpec wsX5_worst ({ frames := 4, cells := 0, slots := 0, locals := 98 })).room s m (([.ref ax, .int p0, .int p1, .int p2, .int p3] : List Value).toArray) below meth c H locs 0 0 (MQ below (va_Qi (fun (r : Int32) (_ : Unit) => r = res.1) (QW (dC, dI) cy A [(ax, .inr (5, [.int vxn, .ref axr, .ref axb, .ref axj, .int vxk, .ref axi, .ref axu, .long res.2.1, .long res.2.2.1, .long res.2.2.2.1, .long res.2.2.2.2.1])), (axi, .inl (cy, 8, .inl res.2.2.2.2.2.1)), (axu, .inl (cy, 8, .inl res.2.2.2.2.2.2))]) A) (([.ref ax, .int p0, .int p1, .int p2, .int p3] : List Value).toArray) s 0 0 A) (F0 m 0 ls []) by rw [hH] at hgo; exact hgo
  replace hP := hP2
  replace hS := hS2
  clear hP2 hS2
  have hin_X5 : ∀ w ∈ wsX50, w ∈ wsX5_worst := by decide +kernel
  have hf_7 := hts (.fieldLink RX5 7 "FewLooksModel" "n" "I") (by decide +kernel)
  have hf_107 := hts (.fieldLink RX5 107 "FewLooksModel" "above" "J") (by decide +kernel)
  have hf_111 := hts (.fieldLink RX5 111 "FewLooksModel" "below" "J") (by decide +kernel)
  have hf_139 := hts (.fieldLink RX5 139 "FewLooksModel" "worstBelow" "J") (by decide +kernel)
  have hf_142 := hts (.fieldLink RX5 142 "FewLooksModel" "worstAbove" "J") (by decide +kernel)
  unfold fX5_worst at h
  refine lv_iload_n hx hb dX5_worst_0 rfl (lv_at hl 1 rfl) ?_
  refine lv_iconst (v := (0 : Int32)) hx hb dX5_worst_1 (by decide) ?_
  refine lv_iconst (v := (3 : Int32)) hx hb dX5_worst_2 (by decide) ?_
  obtain ⟨r1, hr1, h⟩ := bd_some h
  have hFc := va_free (wc := []) hD hS hA [] rfl
  refine va_calli (va_runS (As := [.int p0, .int (0 : Int32), .int (3 : Int32)]) (rest := []) ⟨hx, hb, hml, hown, hts⟩ (c_X5_in l dC dI cy  H.size  p0 (0 : Int32) (3 : Int32) r1 hr1) (va_cwS 3 hts gX5_worst_X5_in rfl rfl rfl (by decide +kernel) ⟨Nat.le_of_ble_eq_true rfl, Nat.le_of_ble_eq_true rfl⟩) ⟨PW_fb, PW_pre (hP.sub (ws' := []) [] rfl) hK (hD.sub [] (by decide) rfl) hN⟩ rfl rfl hl.1 rfl (lv_room (Nat.le_of_ble_eq_true rfl)) dX5_worst_3 ⟨Nat.zero_le _, Nat.zero_le _⟩) hS (fun q _ h => hFc q h) hFc (fun rz u t H locs ht hvm hw hB hz1 hk1 hS => ?_)
  obtain ⟨hP, hD⟩ := jn (wr := [(ax, .inr (5, [.int vxn, .ref axr, .ref axb, .ref axj, .int vxk, .ref axi, .ref axu, .long vxA, .long vxB, .long vxC, .long vxE])), (axi, .inl (cy, 8, .inl fxi)), (axu, .inl (cy, 8, .inl fxu))]) (w1 := []) (ws' := [(ax, .inr (5, [.int vxn, .ref axr, .ref axb, .ref axj, .int vxk, .ref axi, .ref axu, .long vxA, .long vxB, .long vxC, .long vxE])), (axi, .inl (cy, 8, .inl fxi)), (axu, .inl (cy, 8, .inl fxu))]) hP hD [] [0, 1, 2] rfl rfl (by decide) (by decide) hk1 hFc hB ht [0, 1, 2] rfl (by decide) rfl
  obtain ⟨hw, br1⟩ := hw
  replace hw := hw.symm
  subst hw
  clear hFc hB hk1 hz1 hvm
  refine lv_if_eq (tgt := 49) hx hb dX5_worst_6 (by decide) (fun c20 => ?_) (fun c20 => ?_)
  · rw [if_pos c20] at h
    refine lv_bipush (v := (-2 : Int32)) hx hb dX5_worst_49 (by decide) ?_
    have h0 := Option.some.inj h
    subst h0
    exact W.iret hx hb hr (fun t ht hW => ⟨⟨_, (), rfl, rfl, QW_mk hP hK hD ht hW⟩, hS.F ht⟩) hS.2.2 dX5_worst_51
  · rw [if_neg c20] at h
    refine lv_iload_n hx hb dX5_worst_9 rfl (lv_at hl 2 rfl) ?_
    refine lv_iconst (v := (0 : Int32)) hx hb dX5_worst_10 (by decide) ?_
    refine lv_bipush (v := (8 : Int32)) hx hb dX5_worst_11 (by decide) ?_
    obtain ⟨r2, hr2, h⟩ := bd_some h
    have hFc := va_free (wc := []) hD hS hA [] rfl
    refine va_calli (va_runS (As := [.int p1, .int (0 : Int32), .int (8 : Int32)]) (rest := []) ⟨hx, hb, hml, hown, hts⟩ (c_X5_in l dC dI cy  H.size  p1 (0 : Int32) (8 : Int32) r2 hr2) (va_cwS 3 hts gX5_worst_X5_in rfl rfl rfl (by decide +kernel) ⟨Nat.le_of_ble_eq_true rfl, Nat.le_of_ble_eq_true rfl⟩) ⟨PW_fb, PW_pre (hP.sub (ws' := []) [] rfl) hK (hD.sub [] (by decide) rfl) hN⟩ rfl rfl hl.1 rfl (lv_room (Nat.le_of_ble_eq_true rfl)) dX5_worst_13 ⟨Nat.zero_le _, Nat.zero_le _⟩) hS (fun q _ h => hFc q h) hFc (fun rz u t H locs ht hvm hw hB hz1 hk1 hS => ?_)
    obtain ⟨hP, hD⟩ := jn (wr := [(ax, .inr (5, [.int vxn, .ref axr, .ref axb, .ref axj, .int vxk, .ref axi, .ref axu, .long vxA, .long vxB, .long vxC, .long vxE])), (axi, .inl (cy, 8, .inl fxi)), (axu, .inl (cy, 8, .inl fxu))]) (w1 := []) (ws' := [(ax, .inr (5, [.int vxn, .ref axr, .ref axb, .ref axj, .int vxk, .ref axi, .ref axu, .long vxA, .long vxB, .long vxC, .long vxE])), (axi, .inl (cy, 8, .inl fxi)), (axu, .inl (cy, 8, .inl fxu))]) hP hD [] [0, 1, 2] rfl rfl (by decide) (by decide) hk1 hFc hB ht [0, 1, 2] rfl (by decide) rfl
    obtain ⟨hw, br2⟩ := hw
    replace hw := hw.symm
    subst hw
    clear hFc hB hk1 hz1 hvm
    refine lv_if_eq (tgt := 49) hx hb dX5_worst_16 (by decide) (fun c19 => ?_) (fun c19 => ?_)
    · rw [if_pos c19] at h
      refine lv_bipush (v := (-2 : Int32)) hx hb dX5_worst_49 (by decide) ?_
      have h0 := Option.some.inj h
      subst h0
      exact W.iret hx hb hr (fun t ht hW => ⟨⟨_, (), rfl, rfl, QW_mk hP hK hD ht hW⟩, hS.F ht⟩) hS.2.2 dX5_worst_51
    · rw [if_neg c19] at h
      refine lv_iload hx hb dX5_worst_19 (lv_at hl 4 rfl) ?_
      refine lv_iconst (v := (0 : Int32)) hx hb dX5_worst_21 (by decide) ?_
      refine lv_iconst (v := (2 : Int32)) hx hb dX5_worst_22 (by decide) ?_
      obtain ⟨r3, hr3, h⟩ := bd_some h
      have hFc := va_free (wc := []) hD hS hA [] rfl
      refine va_calli (va_runS (As := [.int p3, .int (0 : Int32), .int (2 : Int32)]) (rest := []) ⟨hx, hb, hml, hown, hts⟩ (c_X5_in l dC dI cy  H.size  p3 (0 : Int32) (2 : Int32) r3 hr3) (va_cwS 3 hts gX5_worst_X5_in rfl rfl rfl (by decide +kernel) ⟨Nat.le_of_ble_eq_true rfl, Nat.le_of_ble_eq_true rfl⟩) ⟨PW_fb, PW_pre (hP.sub (ws' := []) [] rfl) hK (hD.sub [] (by decide) rfl) hN⟩ rfl rfl hl.1 rfl (lv_room (Nat.le_of_ble_eq_true rfl)) dX5_worst_23 ⟨Nat.zero_le _, Nat.zero_le _⟩) hS (fun q _ h => hFc q h) hFc (fun rz u t H locs ht hvm hw hB hz1 hk1 hS => ?_)
      obtain ⟨hP, hD⟩ := jn (wr := [(ax, .inr (5, [.int vxn, .ref axr, .ref axb, .ref axj, .int vxk, .ref axi, .ref axu, .long vxA, .long vxB, .long vxC, .long vxE])), (axi, .inl (cy, 8, .inl fxi)), (axu, .inl (cy, 8, .inl fxu))]) (w1 := []) (ws' := [(ax, .inr (5, [.int vxn, .ref axr, .ref axb, .ref axj, .int vxk, .ref axi, .ref axu, .long vxA, .long vxB, .long vxC, .long vxE])), (axi, .inl (cy, 8, .inl fxi)), (axu, .inl (cy, 8, .inl fxu))]) hP hD [] [0, 1, 2] rfl rfl (by decide) (by decide) hk1 hFc hB ht [0, 1, 2] rfl (by decide) rfl
      obtain ⟨hw, br3⟩ := hw
      replace hw := hw.symm
      subst hw
      clear hFc hB hk1 hz1 hvm
      refine lv_if_eq (tgt := 49) hx hb dX5_worst_26 (by decide) (fun c18 => ?_) (fun c18 => ?_)
      · rw [if_pos c18] at h
        refine lv_bipush (v := (-2 : Int32)) hx hb dX5_worst_49 (by decide) ?_
        have h0 := Option.some.inj h
        subst h0
        exact W.iret hx hb hr (fun t ht hW => ⟨⟨_, (), rfl, rfl, QW_mk hP hK hD ht hW⟩, hS.F ht⟩) hS.2.2 dX5_worst_51
      · rw [if_neg c18] at h
        refine lv_iload hx hb dX5_worst_29 (lv_at hl 4 rfl) ?_
        refine lv_if_ne (tgt := 45) hx hb dX5_worst_31 (by decide) (fun c17 => ?_) (fun c17 => ?_)
        · rw [if_neg c17] at h
          refine lv_iload_n hx hb dX5_worst_45 rfl (lv_at hl 3 rfl) ?_
          refine lv_if_eq (tgt := 52) hx hb dX5_worst_46 (by decide) (fun c9 => ?_) (fun c9 => ?_)
          · rw [if_pos c9] at h
            refine lv_aload_n hx hb dX5_worst_52 rfl (lv_at hl 0 rfl) ?_
            refine lv_iload_n hx hb dX5_worst_53 rfl (lv_at hl 1 rfl) ?_
            refine lv_iload_n hx hb dX5_worst_54 rfl (lv_at hl 2 rfl) ?_
            obtain ⟨r4, hr4, h⟩ := bd_some h
            have hFc := va_free (wc := [(ax, .inr (5, [.int vxn, .ref axr, .ref axb, .ref axj, .int vxk, .ref axi, .ref axu, .long vxA, .long vxB, .long vxC, .long vxE])), (axi, .inl (cy, 8, .inl fxi)), (axu, .inl (cy, 8, .inl fxu))]) hD hS hA [0, 1, 2] rfl
            refine va_calli (va_runV (As := [.int p0, .int p1]) (rest := []) ⟨hx, hb, hml, hown, hts⟩ (c_X5_findWorst l dC dI cy ax axr axb axj axi axu H.size vxn vxk vxA vxB vxC vxE fxi fxu p0 p1 r4 hr4) (cwV 2 hts gX5_worst_X5_findWorst rfl rfl rfl (by decide +kernel) ⟨Nat.le_of_ble_eq_true rfl, Nat.le_of_ble_eq_true rfl⟩) ⟨PW_fb, va_recv hK hP (ci := 5) (q0 := 0) rfl rfl, PW_pre (hP.sub (ws' := [(ax, .inr (5, [.int vxn, .ref axr, .ref axb, .ref axj, .int vxk, .ref axi, .ref axu, .long vxA, .long vxB, .long vxC, .long vxE])), (axi, .inl (cy, 8, .inl fxi)), (axu, .inl (cy, 8, .inl fxu))]) [0, 1, 2] rfl) hK (hD.sub [0, 1, 2] (by decide) rfl) hN⟩ rfl rfl hl.1 rfl (lv_room (Nat.le_of_ble_eq_true rfl)) dX5_worst_55 ⟨Nat.zero_le _, Nat.zero_le _⟩) hS (fun q _ h => hFc q h) hFc (fun rz u t H locs ht hvm hw hB hz1 hk1 hS => ?_)
            obtain ⟨hP, hD⟩ := jn (wr := []) (w1 := [(ax, .inr (5, [.int vxn, .ref axr, .ref axb, .ref axj, .int vxk, .ref axi, .ref axu, .long r4.2.1, .long r4.2.2.1, .long r4.2.2.2.1, .long r4.2.2.2.2.1])), (axi, .inl (cy, 8, .inl r4.2.2.2.2.2.1)), (axu, .inl (cy, 8, .inl r4.2.2.2.2.2.2))]) (ws' := [(ax, .inr (5, [.int vxn, .ref axr, .ref axb, .ref axj, .int vxk, .ref axi, .ref axu, .long r4.2.1, .long r4.2.2.1, .long r4.2.2.2.1, .long r4.2.2.2.2.1])), (axi, .inl (cy, 8, .inl r4.2.2.2.2.2.1)), (axu, .inl (cy, 8, .inl r4.2.2.2.2.2.2))]) hP hD [0, 1, 2] [] rfl rfl (by decide) (by decide) hk1 hFc hB ht [0, 1, 2] rfl (by decide) rfl
            replace hw := hw.symm
            subst hw
            clear hFc hB hk1 hz1 hvm
            refine lv_istore (lv' := [(5, .int r4.1), (0, .ref ax), (1, .int p0), (2, .int p1), (3, .int p2), (4, .int p3)]) hx hb dX5_worst_58 hl (by decide) rfl (fun ls hl => ?_)
            refine lv_iload hx hb dX5_worst_60 (lv_at hl 0 rfl) ?_
            refine lv_iconst (v := (-1 : Int32)) hx hb dX5_worst_62 (by decide) ?_
            refine lv_icmp_ne (tgt := 68) hx hb dX5_worst_63 (by decide) (fun c8 => ?_) (fun c8 => ?_)
            · rw [if_neg c8] at h
              refine lv_iload hx hb dX5_worst_68 (lv_at hl 5 rfl) ?_
              refine lv_if_ne (tgt := 87) hx hb dX5_worst_70 (by decide) (fun c7 => ?_) (fun c7 => ?_)
              · rw [if_neg c7] at h
                refine lv_aload_n hx hb dX5_worst_87 rfl (lv_at hl 1 rfl) ?_
                refine lv_aload_n hx hb dX5_worst_88 rfl (lv_at hl 1 rfl) ?_
                refine va_get (D := (dC, dI)) (ci := 5) (v := .long r4.2.2.2.1) (C := RX5) (T := TX5) (N := 11) hx hb hts hin_X5 hown hK hP 0 rfl rfl 9 (by decide) (hf_142) (fun _ h9 => h9) rfl dX5_worst_89 ?_
                refine va_put (D := (dC, dI)) (ci := 5) (v := .long r4.2.2.2.1) (ty := .long) (C := RX5) (T := TX5) (N := 11) hx hb hts hin_X5 tyX5 tyX5_ok nmX5 hown hK hP hD hS 0 rfl rfl 7 (by decide) (hf_107) (fun _ h9 => h9) rfl (by decide +kernel) rfl rfl (Nat.le_of_ble_eq_true rfl) dX5_worst_92 (fun H locs hP hD hS => ?_)
                replace hP : va_P (dC, dI) vwCl [(ax, .inr (5, [.int vxn, .ref axr, .ref axb, .ref axj, .int vxk, .ref axi, .ref axu, .long r4.2.2.2.1, .long r4.2.2.1, .long r4.2.2.2.1, .long r4.2.2.2.2.1])), (axi, .inl (cy, 8, .inl r4.2.2.2.2.2.1)), (axu, .inl (cy, 8, .inl r4.2.2.2.2.2.2))] H := hP
                replace hD : va_D A [(ax, .inr (5, [.int vxn, .ref axr, .ref axb, .ref axj, .int vxk, .ref axi, .ref axu, .long r4.2.2.2.1, .long r4.2.2.1, .long r4.2.2.2.1, .long r4.2.2.2.2.1])), (axi, .inl (cy, 8, .inl r4.2.2.2.2.2.1)), (axu, .inl (cy, 8, .inl r4.2.2.2.2.2.2))] := hD
                refine lv_aload_n hx hb dX5_worst_95 rfl (lv_at hl 1 rfl) ?_
                refine lv_aload_n hx hb dX5_worst_96 rfl (lv_at hl 1 rfl) ?_
                refine va_get (D := (dC, dI)) (ci := 5) (v := .long r4.2.2.2.2.1) (C := RX5) (T := TX5) (N := 11) hx hb hts hin_X5 hown hK hP 0 rfl rfl 10 (by decide) (hf_139) (fun _ h9 => h9) rfl dX5_worst_97 ?_
                refine va_put (D := (dC, dI)) (ci := 5) (v := .long r4.2.2.2.2.1) (ty := .long) (C := RX5) (T := TX5) (N := 11) hx hb hts hin_X5 tyX5 tyX5_ok nmX5 hown hK hP hD hS 0 rfl rfl 8 (by decide) (hf_111) (fun _ h9 => h9) rfl (by decide +kernel) rfl rfl (Nat.le_of_ble_eq_true rfl) dX5_worst_100 (fun H locs hP hD hS => ?_)
                replace hP : va_P (dC, dI) vwCl [(ax, .inr (5, [.int vxn, .ref axr, .ref axb, .ref axj, .int vxk, .ref axi, .ref axu, .long r4.2.2.2.1, .long r4.2.2.2.2.1, .long r4.2.2.2.1, .long r4.2.2.2.2.1])), (axi, .inl (cy, 8, .inl r4.2.2.2.2.2.1)), (axu, .inl (cy, 8, .inl r4.2.2.2.2.2.2))] H := hP
                replace hD : va_D A [(ax, .inr (5, [.int vxn, .ref axr, .ref axb, .ref axj, .int vxk, .ref axi, .ref axu, .long r4.2.2.2.1, .long r4.2.2.2.2.1, .long r4.2.2.2.1, .long r4.2.2.2.2.1])), (axi, .inl (cy, 8, .inl r4.2.2.2.2.2.1)), (axu, .inl (cy, 8, .inl r4.2.2.2.2.2.2))] := hD
                refine lv_aload_n hx hb dX5_worst_103 rfl (lv_at hl 1 rfl) ?_
                obtain ⟨r5, hr5, h⟩ := bd_some h
                have hFc := va_free (wc := [(ax, .inr (5, [.int vxn, .ref axr, .ref axb, .ref axj, .int vxk, .ref axi, .ref axu, .long r4.2.2.2.1, .long r4.2.2.2.2.1, .long r4.2.2.2.1, .long r4.2.2.2.2.1]))]) hD hS hA [0] rfl
                refine va_callv (va_runV (As := []) (rest := []) ⟨hx, hb, hml, hown, hts⟩ (c_X5_reduce l dC dI cy ax axr axb axj axi axu H.size vxn vxk r4.2.2.2.1 r4.2.2.2.2.1 r4.2.2.2.1 r4.2.2.2.2.1  r5 hr5) (cwV 0 hts gX5_worst_X5_reduce rfl rfl rfl (by decide +kernel) ⟨Nat.le_of_ble_eq_true rfl, Nat.le_of_ble_eq_true rfl⟩) ⟨PW_fb, va_recv hK hP (ci := 5) (q0 := 0) rfl rfl, PW_pre (hP.sub (ws' := [(ax, .inr (5, [.int vxn, .ref axr, .ref axb, .ref axj, .int vxk, .ref axi, .ref axu, .long r4.2.2.2.1, .long r4.2.2.2.2.1, .long r4.2.2.2.1, .long r4.2.2.2.2.1]))]) [0] rfl) hK (hD.sub [0] (by decide) rfl) hN⟩ rfl rfl hl.1 rfl (lv_room (Nat.le_of_ble_eq_true rfl)) dX5_worst_104 ⟨Nat.zero_le _, Nat.zero_le _⟩) hS (fun q _ h => hFc q h) hFc (fun u t H locs ht hvm hw hB hz1 hk1 hS => ?_)
                obtain ⟨hP, hD⟩ := jn (wr := [(axi, .inl (cy, 8, .inl r4.2.2.2.2.2.1)), (axu, .inl (cy, 8, .inl r4.2.2.2.2.2.2))]) (w1 := [(ax, .inr (5, [.int vxn, .ref axr, .ref axb, .ref axj, .int vxk, .ref axi, .ref axu, .long r5.1, .long r5.2, .long r4.2.2.2.1, .long r4.2.2.2.2.1]))]) (ws' := [(ax, .inr (5, [.int vxn, .ref axr, .ref axb, .ref axj, .int vxk, .ref axi, .ref axu, .long r5.1, .long r5.2, .long r4.2.2.2.1, .long r4.2.2.2.2.1])), (axi, .inl (cy, 8, .inl r4.2.2.2.2.2.1)), (axu, .inl (cy, 8, .inl r4.2.2.2.2.2.2))]) hP hD [0] [1, 2] rfl rfl (by decide) (by decide) hk1 hFc hB ht [2, 0, 1] rfl (by decide) rfl
                clear hFc hB hk1 hz1 hvm
                refine lv_iload hx hb dX5_worst_107 (lv_at hl 5 rfl) ?_
                refine lv_iconst (v := (1 : Int32)) hx hb dX5_worst_109 (by decide) ?_
                refine lv_icmp_ne (tgt := 120) hx hb dX5_worst_110 (by decide) (fun c6 => ?_) (fun c6 => ?_)
                · rw [if_neg c6] at h
                  refine lv_aload_n hx hb dX5_worst_120 rfl (lv_at hl 1 rfl) ?_
                  refine va_get (D := (dC, dI)) (ci := 5) (v := .long r5.2) (C := RX5) (T := TX5) (N := 11) hx hb hts hin_X5 hown hK hP 0 rfl rfl 8 (by decide) (hf_111) (fun _ h9 => h9) rfl dX5_worst_121 ?_
                  refine lv_l2i (v := r5.2.toInt32) hx hb dX5_worst_124 rfl ?_
                  have h0 := Option.some.inj h
                  subst h0
                  exact W.iret hx hb hr (fun t ht hW => ⟨⟨_, (), rfl, rfl, QW_mk hP hK hD ht hW⟩, hS.F ht⟩) hS.2.2 dX5_worst_125
                · rw [if_pos c6] at h
                  refine lv_aload_n hx hb dX5_worst_113 rfl (lv_at hl 1 rfl) ?_
                  refine va_get (D := (dC, dI)) (ci := 5) (v := .long r5.1) (C := RX5) (T := TX5) (N := 11) hx hb hts hin_X5 hown hK hP 0 rfl rfl 7 (by decide) (hf_107) (fun _ h9 => h9) rfl dX5_worst_114 ?_
                  refine lv_goto (tgt := 124) hx hb dX5_worst_117 (by decide) ?_
                  refine lv_l2i (v := r5.1.toInt32) hx hb dX5_worst_124 rfl ?_
                  have h0 := Option.some.inj h
                  subst h0
                  exact W.iret hx hb hr (fun t ht hW => ⟨⟨_, (), rfl, rfl, QW_mk hP hK hD ht hW⟩, hS.F ht⟩) hS.2.2 dX5_worst_125
              · rw [if_pos c7] at h
                refine lv_iload hx hb dX5_worst_73 (lv_at hl 0 rfl) ?_
                refine lv_aload_n hx hb dX5_worst_75 rfl (lv_at hl 1 rfl) ?_
                refine va_get (D := (dC, dI)) (ci := 5) (v := .int vxn) (C := RX5) (T := TX5) (N := 11) hx hb hts hin_X5 hown hK hP 0 rfl rfl 0 (by decide) (hf_7) (fun _ h9 => h9) rfl dX5_worst_76 ?_
                refine lv_iconst (v := (1 : Int32)) hx hb dX5_worst_79 (by decide) ?_
                refine lv_isub hx hb dX5_worst_80 ?_
                refine lv_iload_n hx hb dX5_worst_81 rfl (lv_at hl 4 rfl) ?_
                refine lv_isub hx hb dX5_worst_82 ?_
                refine lv_ishr hx hb dX5_worst_83 ?_
                refine lv_iconst (v := (1 : Int32)) hx hb dX5_worst_84 (by decide) ?_
                refine lv_iand hx hb dX5_worst_85 ?_
                have h0 := Option.some.inj h
                subst h0
                exact W.iret hx hb hr (fun t ht hW => ⟨⟨_, (), rfl, rfl, QW_mk hP hK hD ht hW⟩, hS.F ht⟩) hS.2.2 dX5_worst_86
            · rw [if_pos c8] at h
              refine lv_iconst (v := (-1 : Int32)) hx hb dX5_worst_66 (by decide) ?_
              have h0 := Option.some.inj h
              subst h0
              exact W.iret hx hb hr (fun t ht hW => ⟨⟨_, (), rfl, rfl, QW_mk hP hK hD ht hW⟩, hS.F ht⟩) hS.2.2 dX5_worst_67
          · rw [if_neg c9] at h
            refine lv_bipush (v := (-2 : Int32)) hx hb dX5_worst_49 (by decide) ?_
            have h0 := Option.some.inj h
            subst h0
            exact W.iret hx hb hr (fun t ht hW => ⟨⟨_, (), rfl, rfl, QW_mk hP hK hD ht hW⟩, hS.F ht⟩) hS.2.2 dX5_worst_51
        · rw [if_pos c17] at h
          refine lv_aload_n hx hb dX5_worst_34 rfl (lv_at hl 0 rfl) ?_
          refine lv_iload_n hx hb dX5_worst_35 rfl (lv_at hl 3 rfl) ?_
          obtain ⟨r10, hr10, h⟩ := bd_some h
          have hFc := va_free (wc := [(ax, .inr (5, [.int vxn, .ref axr, .ref axb, .ref axj, .int vxk, .ref axi, .ref axu, .long vxA, .long vxB, .long vxC, .long vxE]))]) hD hS hA [0] rfl
          refine va_calli (va_runV (As := [.int p2]) (rest := []) ⟨hx, hb, hml, hown, hts⟩ (c_X5_isPlace l dC dI cy ax axr axb axj axi axu H.size vxn vxk vxA vxB vxC vxE p2 r10 hr10) (cwV 1 hts gX5_worst_X5_isPlace rfl rfl rfl (by decide +kernel) ⟨Nat.le_of_ble_eq_true rfl, Nat.le_of_ble_eq_true rfl⟩) ⟨PW_fb, va_recv hK hP (ci := 5) (q0 := 0) rfl rfl, PW_pre (hP.sub (ws' := [(ax, .inr (5, [.int vxn, .ref axr, .ref axb, .ref axj, .int vxk, .ref axi, .ref axu, .long vxA, .long vxB, .long vxC, .long vxE]))]) [0] rfl) hK (hD.sub [0] (by decide) rfl) hN⟩ rfl rfl hl.1 rfl (lv_room (Nat.le_of_ble_eq_true rfl)) dX5_worst_36 ⟨Nat.zero_le _, Nat.zero_le _⟩) hS (fun q _ h => hFc q h) hFc (fun rz u t H locs ht hvm hw hB hz1 hk1 hS => ?_)
          obtain ⟨hP, hD⟩ := jn (wr := [(axi, .inl (cy, 8, .inl fxi)), (axu, .inl (cy, 8, .inl fxu))]) (w1 := [(ax, .inr (5, [.int vxn, .ref axr, .ref axb, .ref axj, .int vxk, .ref axi, .ref axu, .long vxA, .long vxB, .long vxC, .long vxE]))]) (ws' := [(ax, .inr (5, [.int vxn, .ref axr, .ref axb, .ref axj, .int vxk, .ref axi, .ref axu, .long vxA, .long vxB, .long vxC, .long vxE])), (axi, .inl (cy, 8, .inl fxi)), (axu, .inl (cy, 8, .inl fxu))]) hP hD [0] [1, 2] rfl rfl (by decide) (by decide) hk1 hFc hB ht [2, 0, 1] rfl (by decide) rfl
          obtain ⟨hw, br10⟩ := hw
          replace hw := hw.symm
          subst hw
          clear hFc hB hk1 hz1 hvm
          refine lv_if_ne (tgt := 52) hx hb dX5_worst_39 (by decide) (fun c16 => ?_) (fun c16 => ?_)
          · rw [if_neg c16] at h
            refine lv_aload_n hx hb dX5_worst_52 rfl (lv_at hl 0 rfl) ?_
            refine lv_iload_n hx hb dX5_worst_53 rfl (lv_at hl 1 rfl) ?_
            refine lv_iload_n hx hb dX5_worst_54 rfl (lv_at hl 2 rfl) ?_
            obtain ⟨r11, hr11, h⟩ := bd_some h
            have hFc := va_free (wc := [(ax, .inr (5, [.int vxn, .ref axr, .ref axb, .ref axj, .int vxk, .ref axi, .ref axu, .long vxA, .long vxB, .long vxC, .long vxE])), (axi, .inl (cy, 8, .inl fxi)), (axu, .inl (cy, 8, .inl fxu))]) hD hS hA [0, 1, 2] rfl
            refine va_calli (va_runV (As := [.int p0, .int p1]) (rest := []) ⟨hx, hb, hml, hown, hts⟩ (c_X5_findWorst l dC dI cy ax axr axb axj axi axu H.size vxn vxk vxA vxB vxC vxE fxi fxu p0 p1 r11 hr11) (cwV 2 hts gX5_worst_X5_findWorst rfl rfl rfl (by decide +kernel) ⟨Nat.le_of_ble_eq_true rfl, Nat.le_of_ble_eq_true rfl⟩) ⟨PW_fb, va_recv hK hP (ci := 5) (q0 := 0) rfl rfl, PW_pre (hP.sub (ws' := [(ax, .inr (5, [.int vxn, .ref axr, .ref axb, .ref axj, .int vxk, .ref axi, .ref axu, .long vxA, .long vxB, .long vxC, .long vxE])), (axi, .inl (cy, 8, .inl fxi)), (axu, .inl (cy, 8, .inl fxu))]) [0, 1, 2] rfl) hK (hD.sub [0, 1, 2] (by decide) rfl) hN⟩ rfl rfl hl.1 rfl (lv_room (Nat.le_of_ble_eq_true rfl)) dX5_worst_55 ⟨Nat.zero_le _, Nat.zero_le _⟩) hS (fun q _ h => hFc q h) hFc (fun rz u t H locs ht hvm hw hB hz1 hk1 hS => ?_)
            obtain ⟨hP, hD⟩ := jn (wr := []) (w1 := [(ax, .inr (5, [.int vxn, .ref axr, .ref axb, .ref axj, .int vxk, .ref axi, .ref axu, .long r11.2.1, .long r11.2.2.1, .long r11.2.2.2.1, .long r11.2.2.2.2.1])), (axi, .inl (cy, 8, .inl r11.2.2.2.2.2.1)), (axu, .inl (cy, 8, .inl r11.2.2.2.2.2.2))]) (ws' := [(ax, .inr (5, [.int vxn, .ref axr, .ref axb, .ref axj, .int vxk, .ref axi, .ref axu, .long r11.2.1, .long r11.2.2.1, .long r11.2.2.2.1, .long r11.2.2.2.2.1])), (axi, .inl (cy, 8, .inl r11.2.2.2.2.2.1)), (axu, .inl (cy, 8, .inl r11.2.2.2.2.2.2))]) hP hD [0, 1, 2] [] rfl rfl (by decide) (by decide) hk1 hFc hB ht [0, 1, 2] rfl (by decide) rfl
            replace hw := hw.symm
            subst hw
            clear hFc hB hk1 hz1 hvm
            refine lv_istore (lv' := [(5, .int r11.1), (0, .ref ax), (1, .int p0), (2, .int p1), (3, .int p2), (4, .int p3)]) hx hb dX5_worst_58 hl (by decide) rfl (fun ls hl => ?_)
            refine lv_iload hx hb dX5_worst_60 (lv_at hl 0 rfl) ?_
            refine lv_iconst (v := (-1 : Int32)) hx hb dX5_worst_62 (by decide) ?_
            refine lv_icmp_ne (tgt := 68) hx hb dX5_worst_63 (by decide) (fun c15 => ?_) (fun c15 => ?_)
            · rw [if_neg c15] at h
              refine lv_iload hx hb dX5_worst_68 (lv_at hl 5 rfl) ?_
              refine lv_if_ne (tgt := 87) hx hb dX5_worst_70 (by decide) (fun c14 => ?_) (fun c14 => ?_)
              · rw [if_neg c14] at h
                refine lv_aload_n hx hb dX5_worst_87 rfl (lv_at hl 1 rfl) ?_
                refine lv_aload_n hx hb dX5_worst_88 rfl (lv_at hl 1 rfl) ?_
                refine va_get (D := (dC, dI)) (ci := 5) (v := .long r11.2.2.2.1) (C := RX5) (T := TX5) (N := 11) hx hb hts hin_X5 hown hK hP 0 rfl rfl 9 (by decide) (hf_142) (fun _ h9 => h9) rfl dX5_worst_89 ?_
                refine va_put (D := (dC, dI)) (ci := 5) (v := .long r11.2.2.2.1) (ty := .long) (C := RX5) (T := TX5) (N := 11) hx hb hts hin_X5 tyX5 tyX5_ok nmX5 hown hK hP hD hS 0 rfl rfl 7 (by decide) (hf_107) (fun _ h9 => h9) rfl (by decide +kernel) rfl rfl (Nat.le_of_ble_eq_true rfl) dX5_worst_92 (fun H locs hP hD hS => ?_)
                replace hP : va_P (dC, dI) vwCl [(ax, .inr (5, [.int vxn, .ref axr, .ref axb, .ref axj, .int vxk, .ref axi, .ref axu, .long r11.2.2.2.1, .long r11.2.2.1, .long r11.2.2.2.1, .long r11.2.2.2.2.1])), (axi, .inl (cy, 8, .inl r11.2.2.2.2.2.1)), (axu, .inl (cy, 8, .inl r11.2.2.2.2.2.2))] H := hP
                replace hD : va_D A [(ax, .inr (5, [.int vxn, .ref axr, .ref axb, .ref axj, .int vxk, .ref axi, .ref axu, .long r11.2.2.2.1, .long r11.2.2.1, .long r11.2.2.2.1, .long r11.2.2.2.2.1])), (axi, .inl (cy, 8, .inl r11.2.2.2.2.2.1)), (axu, .inl (cy, 8, .inl r11.2.2.2.2.2.2))] := hD
                refine lv_aload_n hx hb dX5_worst_95 rfl (lv_at hl 1 rfl) ?_
                refine lv_aload_n hx hb dX5_worst_96 rfl (lv_at hl 1 rfl) ?_
                refine va_get (D := (dC, dI)) (ci := 5) (v := .long r11.2.2.2.2.1) (C := RX5) (T := TX5) (N := 11) hx hb hts hin_X5 hown hK hP 0 rfl rfl 10 (by decide) (hf_139) (fun _ h9 => h9) rfl dX5_worst_97 ?_
                refine va_put (D := (dC, dI)) (ci := 5) (v := .long r11.2.2.2.2.1) (ty := .long) (C := RX5) (T := TX5) (N := 11) hx hb hts hin_X5 tyX5 tyX5_ok nmX5 hown hK hP hD hS 0 rfl rfl 8 (by decide) (hf_111) (fun _ h9 => h9) rfl (by decide +kernel) rfl rfl (Nat.le_of_ble_eq_true rfl) dX5_worst_100 (fun H locs hP hD hS => ?_)
                replace hP : va_P (dC, dI) vwCl [(ax, .inr (5, [.int vxn, .ref axr, .ref axb, .ref axj, .int vxk, .ref axi, .ref axu, .long r11.2.2.2.1, .long r11.2.2.2.2.1, .long r11.2.2.2.1, .long r11.2.2.2.2.1])), (axi, .inl (cy, 8, .inl r11.2.2.2.2.2.1)), (axu, .inl (cy, 8, .inl r11.2.2.2.2.2.2))] H := hP
                replace hD : va_D A [(ax, .inr (5, [.int vxn, .ref axr, .ref axb, .ref axj, .int vxk, .ref axi, .ref axu, .long r11.2.2.2.1, .long r11.2.2.2.2.1, .long r11.2.2.2.1, .long r11.2.2.2.2.1])), (axi, .inl (cy, 8, .inl r11.2.2.2.2.2.1)), (axu, .inl (cy, 8, .inl r11.2.2.2.2.2.2))] := hD
                refine lv_aload_n hx hb dX5_worst_103 rfl (lv_at hl 1 rfl) ?_
                obtain ⟨r12, hr12, h⟩ := bd_some h
                have hFc := va_free (wc := [(ax, .inr (5, [.int vxn, .ref axr, .ref axb, .ref axj, .int vxk, .ref axi, .ref axu, .long r11.2.2.2.1, .long r11.2.2.2.2.1, .long r11.2.2.2.1, .long r11.2.2.2.2.1]))]) hD hS hA [0] rfl
                refine va_callv (va_runV (As := []) (rest := []) ⟨hx, hb, hml, hown, hts⟩ (c_X5_reduce l dC dI cy ax axr axb axj axi axu H.size vxn vxk r11.2.2.2.1 r11.2.2.2.2.1 r11.2.2.2.1 r11.2.2.2.2.1  r12 hr12) (cwV 0 hts gX5_worst_X5_reduce rfl rfl rfl (by decide +kernel) ⟨Nat.le_of_ble_eq_true rfl, Nat.le_of_ble_eq_true rfl⟩) ⟨PW_fb, va_recv hK hP (ci := 5) (q0 := 0) rfl rfl, PW_pre (hP.sub (ws' := [(ax, .inr (5, [.int vxn, .ref axr, .ref axb, .ref axj, .int vxk, .ref axi, .ref axu, .long r11.2.2.2.1, .long r11.2.2.2.2.1, .long r11.2.2.2.1, .long r11.2.2.2.2.1]))]) [0] rfl) hK (hD.sub [0] (by decide) rfl) hN⟩ rfl rfl hl.1 rfl (lv_room (Nat.le_of_ble_eq_true rfl)) dX5_worst_104 ⟨Nat.zero_le _, Nat.zero_le _⟩) hS (fun q _ h => hFc q h) hFc (fun u t H locs ht hvm hw hB hz1 hk1 hS => ?_)
                obtain ⟨hP, hD⟩ := jn (wr := [(axi, .inl (cy, 8, .inl r11.2.2.2.2.2.1)), (axu, .inl (cy, 8, .inl r11.2.2.2.2.2.2))]) (w1 := [(ax, .inr (5, [.int vxn, .ref axr, .ref axb, .ref axj, .int vxk, .ref axi, .ref axu, .long r12.1, .long r12.2, .long r11.2.2.2.1, .long r11.2.2.2.2.1]))]) (ws' := [(ax, .inr (5, [.int vxn, .ref axr, .ref axb, .ref axj, .int vxk, .ref axi, .ref axu, .long r12.1, .long r12.2, .long r11.2.2.2.1, .long r11.2.2.2.2.1])), (axi, .inl (cy, 8, .inl r11.2.2.2.2.2.1)), (axu, .inl (cy, 8, .inl r11.2.2.2.2.2.2))]) hP hD [0] [1, 2] rfl rfl (by decide) (by decide) hk1 hFc hB ht [2, 0, 1] rfl (by decide) rfl
                clear hFc hB hk1 hz1 hvm
                refine lv_iload hx hb dX5_worst_107 (lv_at hl 5 rfl) ?_
                refine lv_iconst (v := (1 : Int32)) hx hb dX5_worst_109 (by decide) ?_
                refine lv_icmp_ne (tgt := 120) hx hb dX5_worst_110 (by decide) (fun c13 => ?_) (fun c13 => ?_)
                · rw [if_neg c13] at h
                  refine lv_aload_n hx hb dX5_worst_120 rfl (lv_at hl 1 rfl) ?_
                  refine va_get (D := (dC, dI)) (ci := 5) (v := .long r12.2) (C := RX5) (T := TX5) (N := 11) hx hb hts hin_X5 hown hK hP 0 rfl rfl 8 (by decide) (hf_111) (fun _ h9 => h9) rfl dX5_worst_121 ?_
                  refine lv_l2i (v := r12.2.toInt32) hx hb dX5_worst_124 rfl ?_
                  have h0 := Option.some.inj h
                  subst h0
                  exact W.iret hx hb hr (fun t ht hW => ⟨⟨_, (), rfl, rfl, QW_mk hP hK hD ht hW⟩, hS.F ht⟩) hS.2.2 dX5_worst_125
                · rw [if_pos c13] at h
                  refine lv_aload_n hx hb dX5_worst_113 rfl (lv_at hl 1 rfl) ?_
                  refine va_get (D := (dC, dI)) (ci := 5) (v := .long r12.1) (C := RX5) (T := TX5) (N := 11) hx hb hts hin_X5 hown hK hP 0 rfl rfl 7 (by decide) (hf_107) (fun _ h9 => h9) rfl dX5_worst_114 ?_
                  refine lv_goto (tgt := 124) hx hb dX5_worst_117 (by decide) ?_
                  refine lv_l2i (v := r12.1.toInt32) hx hb dX5_worst_124 rfl ?_
                  have h0 := Option.some.inj h
                  subst h0
                  exact W.iret hx hb hr (fun t ht hW => ⟨⟨_, (), rfl, rfl, QW_mk hP hK hD ht hW⟩, hS.F ht⟩) hS.2.2 dX5_worst_125
              · rw [if_pos c14] at h
                refine lv_iload hx hb dX5_worst_73 (lv_at hl 0 rfl) ?_
                refine lv_aload_n hx hb dX5_worst_75 rfl (lv_at hl 1 rfl) ?_
                refine va_get (D := (dC, dI)) (ci := 5) (v := .int vxn) (C := RX5) (T := TX5) (N := 11) hx hb hts hin_X5 hown hK hP 0 rfl rfl 0 (by decide) (hf_7) (fun _ h9 => h9) rfl dX5_worst_76 ?_
                refine lv_iconst (v := (1 : Int32)) hx hb dX5_worst_79 (by decide) ?_
                refine lv_isub hx hb dX5_worst_80 ?_
                refine lv_iload_n hx hb dX5_worst_81 rfl (lv_at hl 4 rfl) ?_
                refine lv_isub hx hb dX5_worst_82 ?_
                refine lv_ishr hx hb dX5_worst_83 ?_
                refine lv_iconst (v := (1 : Int32)) hx hb dX5_worst_84 (by decide) ?_
                refine lv_iand hx hb dX5_worst_85 ?_
                have h0 := Option.some.inj h
                subst h0
                exact W.iret hx hb hr (fun t ht hW => ⟨⟨_, (), rfl, rfl, QW_mk hP hK hD ht hW⟩, hS.F ht⟩) hS.2.2 dX5_worst_86
            · rw [if_pos c15] at h
              refine lv_iconst (v := (-1 : Int32)) hx hb dX5_worst_66 (by decide) ?_
              have h0 := Option.some.inj h
              subst h0
              exact W.iret hx hb hr (fun t ht hW => ⟨⟨_, (), rfl, rfl, QW_mk hP hK hD ht hW⟩, hS.F ht⟩) hS.2.2 dX5_worst_67
          · rw [if_pos c16] at h
            refine lv_goto (tgt := 49) hx hb dX5_worst_42 (by decide) ?_
            refine lv_bipush (v := (-2 : Int32)) hx hb dX5_worst_49 (by decide) ?_
            have h0 := Option.some.inj h
            subst h0
            exact W.iret hx hb hr (fun t ht hW => ⟨⟨_, (), rfl, rfl, QW_mk hP hK hD ht hW⟩, hS.F ht⟩) hS.2.2 dX5_worst_51

noncomputable def fX5_mended_L22 (n : Nat) (l1 : Int32) (l2 : Int32) (l3 : Int32) (l4 : Int32) (fxb : Nat → Int32) : Option (Int32 × Int32) := match n with
  | 0 => none
  | n + 1 => if (8 : Int32) ≤ l4 then (some (l3, l4)) else (gin l4 8 (gin (l1 ^^^ l4) 8 (if (((fxb l4.toNatClampNeg) + (fxb (l1 ^^^ l4).toNatClampNeg)) - ((fxb l4.toNatClampNeg) + (fxb (l1 ^^^ l4).toNatClampNeg)) / (2 : Int32) * (2 : Int32)) = l2 then (fX5_mended_L22 n l1 l2 (l3 + (1 : Int32)) (l4 + (1 : Int32)) fxb) else (fX5_mended_L22 n l1 l2 (l3 + (0 : Int32)) (l4 + (1 : Int32)) fxb))))
theorem fX5_mended_L22_0 (l1 : Int32) (l2 : Int32) (l3 : Int32) (l4 : Int32) (fxb : Nat → Int32) : fX5_mended_L22 0 l1 l2 l3 l4 fxb = none := rfl
theorem fX5_mended_L22_s (n : Nat) (l1 : Int32) (l2 : Int32) (l3 : Int32) (l4 : Int32) (fxb : Nat → Int32) : fX5_mended_L22 (n + 1) l1 l2 l3 l4 fxb = if (8 : Int32) ≤ l4 then (some (l3, l4)) else (gin l4 8 (gin (l1 ^^^ l4) 8 (if (((fxb l4.toNatClampNeg) + (fxb (l1 ^^^ l4).toNatClampNeg)) - ((fxb l4.toNatClampNeg) + (fxb (l1 ^^^ l4).toNatClampNeg)) / (2 : Int32) * (2 : Int32)) = l2 then (fX5_mended_L22 n l1 l2 (l3 + (1 : Int32)) (l4 + (1 : Int32)) fxb) else (fX5_mended_L22 n l1 l2 (l3 + (0 : Int32)) (l4 + (1 : Int32)) fxb)))) := rfl
noncomputable def fX5_mended (fxb : Nat → Int32) (p0 : Int32) (p1 : Int32) : Option (Int32) := bd (fX5_isEight p0) fun r1 => if r1 = 0 then (some (-2 : Int32)) else (bd (fX5_isBit p1) fun r2 => if r2 = 0 then (some (-2 : Int32)) else (bd (fX5_mended_L22 FU p0 p1 (0 : Int32) (0 : Int32) fxb) fun q6 => some q6.1))
set_option maxHeartbeats 4000000 in
set_option maxRecDepth 100000 in
theorem c_X5_mended (l : Launch) (dC : Nat → ClassId) (dI : Nat → Nat → Nat) (cy : ClassId) (ax axr axb axj axi axu : Nat) (sz : Nat) (vxn : Int32) (vxk : Int32) (vxA : Int64) (vxB : Int64) (vxC : Int64) (vxE : Int64) (fxb : Nat → Int32) (p0 : Int32) (p1 : Int32) (res : Int32) (h : fX5_mended fxb p0 p1 = some res) : Met l yX5_mended wsX5_mended ({ frames := 2, cells := 0, slots := 0, locals := 42 }) (va_Pc [.ref ax, .int p0, .int p1] (PW (dC, dI) cy sz [(ax, .inr (5, [.int vxn, .ref axr, .ref axb, .ref axj, .int vxk, .ref axi, .ref axu, .long vxA, .long vxB, .long vxC, .long vxE])), (axb, .inl (cy, 8, .inl fxb))])) (va_Qi (fun (r : Int32) (_ : Unit) => r = res) (QW (dC, dI) cy (va_A [(ax, .inr (5, [.int vxn, .ref axr, .ref axb, .ref axj, .int vxk, .ref axi, .ref axu, .long vxA, .long vxB, .long vxC, .long vxE])), (axb, .inl (cy, 8, .inl fxb))] sz) [(ax, .inr (5, [.int vxn, .ref axr, .ref axb, .ref axj, .int vxk, .ref axi, .ref axu, .long vxA, .long vxB, .long vxC, .long vxE])), (axb, .inl (cy, 8, .inl fxb))]) (va_A [(ax, .inr (5, [.int vxn, .ref axr, .ref axb, .ref axj, .int vxk, .ref axi, .ref axu, .long vxA, .long vxB, .long vxC, .long vxE])), (axb, .inl (cy, 8, .inl fxb))] sz)) 0 0 (va_A [(ax, .inr (5, [.int vxn, .ref axr, .ref axb, .ref axj, .int vxk, .ref axi, .ref axu, .long vxA, .long vxB, .long vxC, .long vxE])), (axb, .inl (cy, 8, .inl fxb))] sz) := by
  refine Met.ofW (cc := cX5_mended) (maxL := 5) (ret := (some .int)) (by decide) rfl ?_
  intro p e s m args below meth c s₁ B hml hv
  obtain ⟨rfl, hsz, hP, hK, hD0, hN⟩ := hv
  have hx := B.exec
  have hb := B.bytes
  have hr := B.returns
  have hts := atoms_spec (ws := wsX5_mended) B.pre
  have hown : s.vm.findClass RX5 = some m.cls := findClass_of_methodNamed B.named
  have hlocks := B.notSynchronized
  subst hsz
  have hD := hD0.self (sz := s.heap.size)
  clear hD0
  generalize hAe : va_A [(ax, .inr (5, [.int vxn, .ref axr, .ref axb, .ref axj, .int vxk, .ref axi, .ref axu, .long vxA, .long vxB, .long vxC, .long vxE])), (axb, .inl (cy, 8, .inl fxb))] s.heap.size = A at hD ⊢
  have hA : ∀ q : Nat, s.heap.size ≤ q → A q := fun q h => by rw [← hAe]; exact Or.inr h
  have hS : va_S A s.heap s.heap [] := va_S.rf
  have hl := lv_entry ([.ref ax, .int p0, .int p1]) (n := 5) (Nat.le_of_ble_eq_true rfl)
  rw [lg_entry_eq]
  generalize (lg_sl ([.ref ax, .int p0, .int p1]) ++ List.replicate (5 - (lg_sl ([.ref ax, .int p0, .int p1])).length) Slot.unset).toArray = ls at hl ⊢
  replace hl : lv_has ls 5 [(0, .ref ax), (1, .int p0), (2, .int p1)] := hl
  replace hP : va_P (dC, dI) vwCl [(ax, .inr (5, [.int vxn, .ref axr, .ref axb, .ref axj, .int vxk, .ref axi, .ref axu, .long vxA, .long vxB, .long vxC, .long vxE])), (axb, .inl (cy, 8, .inl fxb))] s.heap := hP
  obtain ⟨locs, hlocs⟩ : ∃ lc : List Loc, lc = [] := ⟨_, rfl⟩
  rw [← hlocs] at hS ⊢
  obtain ⟨H, hH⟩ : ∃ H : Heap, H = s.heap := ⟨_, rfl⟩
  have hP2 := hP; rw [← hH] at hP2
  have hS2 : va_S A s.heap H locs := by rw [hH]; exact hS
  suffices hgo : W p l e (headSpec wsX5_mended ({ frames := 2, cells := 0, slots := 0, locals := 42 })).room s m (([.ref ax, .int p0, .int p1] : List Value).toArray) below meth c H locs 0 0 (MQ below (va_Qi (fun (r : Int32) (_ : Unit) => r = res) (QW (dC, dI) cy A [(ax, .inr (5, [.int vxn, .ref axr, .ref axb, .ref axj, .int vxk, .ref axi, .ref axu, .long vxA, .long vxB, .long vxC, .long vxE])), (axb, .inl (cy, 8, .inl fxb))]) A) (([.ref ax, .int p0, .int p1] : List Value).toArray) s 0 0 A) (F0 m 0 ls []) by rw [hH] at hgo; exact hgo
  replace hP := hP2
  replace hS := hS2
  clear hP2 hS2
  have hin_X5 : ∀ w ∈ wsX50, w ∈ wsX5_mended := by decide +kernel
  have hf_17 := hts (.fieldLink RX5 17 "FewLooksModel" "table" "[I") (by decide +kernel)
  unfold fX5_mended at h
  refine lv_iload_n hx hb dX5_mended_0 rfl (lv_at hl 1 rfl) ?_
  obtain ⟨r1, hr1, h⟩ := bd_some h
  have hFc := va_free (wc := []) hD hS hA [] rfl
  refine va_calli (va_runS (As := [.int p0]) (rest := []) ⟨hx, hb, hml, hown, hts⟩ (c_X5_isEight l dC dI cy  H.size  p0 r1 hr1) (va_cwS 1 hts gX5_mended_X5_isEight rfl rfl rfl (by decide +kernel) ⟨Nat.le_of_ble_eq_true rfl, Nat.le_of_ble_eq_true rfl⟩) ⟨PW_fb, PW_pre (hP.sub (ws' := []) [] rfl) hK (hD.sub [] (by decide) rfl) hN⟩ rfl rfl hl.1 rfl (lv_room (Nat.le_of_ble_eq_true rfl)) dX5_mended_1 ⟨Nat.zero_le _, Nat.zero_le _⟩) hS (fun q _ h => hFc q h) hFc (fun rz u t H locs ht hvm hw hB hz1 hk1 hS => ?_)
  obtain ⟨hP, hD⟩ := jn (wr := [(ax, .inr (5, [.int vxn, .ref axr, .ref axb, .ref axj, .int vxk, .ref axi, .ref axu, .long vxA, .long vxB, .long vxC, .long vxE])), (axb, .inl (cy, 8, .inl fxb))]) (w1 := []) (ws' := [(ax, .inr (5, [.int vxn, .ref axr, .ref axb, .ref axj, .int vxk, .ref axi, .ref axu, .long vxA, .long vxB, .long vxC, .long vxE])), (axb, .inl (cy, 8, .inl fxb))]) hP hD [] [0, 1] rfl rfl (by decide) (by decide) hk1 hFc hB ht [0, 1] rfl (by decide) rfl
  obtain ⟨hw, br1⟩ := hw
  replace hw := hw.symm
  subst hw
  clear hFc hB hk1 hz1 hvm
  refine lv_if_eq (tgt := 14) hx hb dX5_mended_4 (by decide) (fun c8 => ?_) (fun c8 => ?_)
  · rw [if_pos c8] at h
    refine lv_bipush (v := (-2 : Int32)) hx hb dX5_mended_14 (by decide) ?_
    have h0 := Option.some.inj h
    subst h0
    exact W.iret hx hb hr (fun t ht hW => ⟨⟨_, (), rfl, rfl, QW_mk hP hK hD ht hW⟩, hS.F ht⟩) hS.2.2 dX5_mended_16
  · rw [if_neg c8] at h
    refine lv_iload_n hx hb dX5_mended_7 rfl (lv_at hl 2 rfl) ?_
    obtain ⟨r2, hr2, h⟩ := bd_some h
    have hFc := va_free (wc := []) hD hS hA [] rfl
    refine va_calli (va_runS (As := [.int p1]) (rest := []) ⟨hx, hb, hml, hown, hts⟩ (c_X5_isBit l dC dI cy  H.size  p1 r2 hr2) (va_cwS 1 hts gX5_mended_X5_isBit rfl rfl rfl (by decide +kernel) ⟨Nat.le_of_ble_eq_true rfl, Nat.le_of_ble_eq_true rfl⟩) ⟨PW_fb, PW_pre (hP.sub (ws' := []) [] rfl) hK (hD.sub [] (by decide) rfl) hN⟩ rfl rfl hl.1 rfl (lv_room (Nat.le_of_ble_eq_true rfl)) dX5_mended_8 ⟨Nat.zero_le _, Nat.zero_le _⟩) hS (fun q _ h => hFc q h) hFc (fun rz u t H locs ht hvm hw hB hz1 hk1 hS => ?_)
    obtain ⟨hP, hD⟩ := jn (wr := [(ax, .inr (5, [.int vxn, .ref axr, .ref axb, .ref axj, .int vxk, .ref axi, .ref axu, .long vxA, .long vxB, .long vxC, .long vxE])), (axb, .inl (cy, 8, .inl fxb))]) (w1 := []) (ws' := [(ax, .inr (5, [.int vxn, .ref axr, .ref axb, .ref axj, .int vxk, .ref axi, .ref axu, .long vxA, .long vxB, .long vxC, .long vxE])), (axb, .inl (cy, 8, .inl fxb))]) hP hD [] [0, 1] rfl rfl (by decide) (by decide) hk1 hFc hB ht [0, 1] rfl (by decide) rfl
    obtain ⟨hw, br2⟩ := hw
    replace hw := hw.symm
    subst hw
    clear hFc hB hk1 hz1 hvm
    refine lv_if_ne (tgt := 17) hx hb dX5_mended_11 (by decide) (fun c7 => ?_) (fun c7 => ?_)
    · rw [if_neg c7] at h
      refine lv_iconst (v := (0 : Int32)) hx hb dX5_mended_17 (by decide) ?_
      refine lv_istore_n (lv' := [(3, .int (0 : Int32)), (0, .ref ax), (1, .int p0), (2, .int p1)]) hx hb dX5_mended_18 rfl hl (by decide) rfl (fun ls hl => ?_)
      refine lv_iconst (v := (0 : Int32)) hx hb dX5_mended_19 (by decide) ?_
      refine lv_istore (lv' := [(4, .int (0 : Int32)), (3, .int (0 : Int32)), (0, .ref ax), (1, .int p0), (2, .int p1)]) hx hb dX5_mended_20 hl (by decide) rfl (fun ls hl => ?_)
      have L22_4 : ∀ (n : Nat) (l1 : Int32) (l2 : Int32) (l3 : Int32) (l4 : Int32) (rs : (Int32 × Int32)) (H : Heap) (locs : List Loc) (ls : Array Slot), fX5_mended_L22 n l1 l2 l3 l4 fxb = some rs → lv_has ls 5 [(0, .ref ax), (1, .int l1), (2, .int l2), (3, .int l3), (4, .int l4)] → va_P (dC, dI) vwCl [(ax, .inr (5, [.int vxn, .ref axr, .ref axb, .ref axj, .int vxk, .ref axi, .ref axu, .long vxA, .long vxB, .long vxC, .long vxE])), (axb, .inl (cy, 8, .inl fxb))] H → va_D A [(ax, .inr (5, [.int vxn, .ref axr, .ref axb, .ref axj, .int vxk, .ref axi, .ref axu, .long vxA, .long vxB, .long vxC, .long vxE])), (axb, .inl (cy, 8, .inl fxb))] → va_S A s.heap H locs → (∀ (H : Heap) (locs : List Loc) (ls : Array Slot), lv_has ls 5 [(0, .ref ax), (1, .int l1), (2, .int l2), (3, .int rs.1), (4, .int rs.2)] → va_P (dC, dI) vwCl [(ax, .inr (5, [.int vxn, .ref axr, .ref axb, .ref axj, .int vxk, .ref axi, .ref axu, .long vxA, .long vxB, .long vxC, .long vxE])), (axb, .inl (cy, 8, .inl fxb))] H → va_D A [(ax, .inr (5, [.int vxn, .ref axr, .ref axb, .ref axj, .int vxk, .ref axi, .ref axu, .long vxA, .long vxB, .long vxC, .long vxE])), (axb, .inl (cy, 8, .inl fxb))] → va_S A s.heap H locs → W p l e (headSpec wsX5_mended ({ frames := 2, cells := 0, slots := 0, locals := 42 })).room s m (([.ref ax, .int p0, .int p1] : List Value).toArray) below meth c H locs 0 0 (MQ below (va_Qi (fun (r : Int32) (_ : Unit) => r = res) (QW (dC, dI) cy A [(ax, .inr (5, [.int vxn, .ref axr, .ref axb, .ref axj, .int vxk, .ref axi, .ref axu, .long vxA, .long vxB, .long vxC, .long vxE])), (axb, .inl (cy, 8, .inl fxb))]) A) (([.ref ax, .int p0, .int p1] : List Value).toArray) s 0 0 A) (F0 m 66 ls [])) → W p l e (headSpec wsX5_mended ({ frames := 2, cells := 0, slots := 0, locals := 42 })).room s m (([.ref ax, .int p0, .int p1] : List Value).toArray) below meth c H locs 0 0 (MQ below (va_Qi (fun (r : Int32) (_ : Unit) => r = res) (QW (dC, dI) cy A [(ax, .inr (5, [.int vxn, .ref axr, .ref axb, .ref axj, .int vxk, .ref axi, .ref axu, .long vxA, .long vxB, .long vxC, .long vxE])), (axb, .inl (cy, 8, .inl fxb))]) A) (([.ref ax, .int p0, .int p1] : List Value).toArray) s 0 0 A) (F0 m 22 ls []) := by
        intro n
        induction n with
        | zero =>
          intro l1 l2 l3 l4 rs H locs ls h
          rw [fX5_mended_L22_0] at h
          cases h
        | succ n ih =>
          intro l1 l2 l3 l4 rs H locs ls h hl hP hD hS K
          rw [fX5_mended_L22_s] at h
          refine lv_iload hx hb dX5_mended_22 (lv_at hl 4 rfl) ?_
          refine lv_bipush (v := (8 : Int32)) hx hb dX5_mended_24 (by decide) ?_
          refine lv_icmp_ge (tgt := 66) hx hb dX5_mended_26 (by decide) (fun c4 => ?_) (fun c4 => ?_)
          · rw [if_pos c4] at h
            have h0 := Option.some.inj h
            subst h0
            exact K H locs ls (lv_sub hl [0, 1, 2, 3, 4] rfl) hP hD hS
          · rw [if_neg c4] at h
            refine lv_iload_n hx hb dX5_mended_29 rfl (lv_at hl 3 rfl) ?_
            refine lv_aload_n hx hb dX5_mended_30 rfl (lv_at hl 0 rfl) ?_
            refine va_get (D := (dC, dI)) (ci := 5) (v := .ref axb) (C := RX5) (T := TX5) (N := 11) hx hb hts hin_X5 hown hK hP 0 rfl rfl 2 (by decide) (hf_17) (fun _ h9 => h9) rfl dX5_mended_31 ?_
            refine lv_iload hx hb dX5_mended_34 (lv_at hl 4 rfl) ?_
            obtain ⟨hi, h⟩ := gin_some h
            refine va_iald hx hb hK hP 1 0 rfl rfl hi dX5_mended_36 ?_
            refine lv_aload_n hx hb dX5_mended_37 rfl (lv_at hl 0 rfl) ?_
            refine va_get (D := (dC, dI)) (ci := 5) (v := .ref axb) (C := RX5) (T := TX5) (N := 11) hx hb hts hin_X5 hown hK hP 0 rfl rfl 2 (by decide) (hf_17) (fun _ h9 => h9) rfl dX5_mended_38 ?_
            refine lv_iload_n hx hb dX5_mended_41 rfl (lv_at hl 1 rfl) ?_
            refine lv_iload hx hb dX5_mended_42 (lv_at hl 4 rfl) ?_
            refine lv_ixor hx hb dX5_mended_44 ?_
            obtain ⟨hi, h⟩ := gin_some h
            refine va_iald hx hb hK hP 1 0 rfl rfl hi dX5_mended_45 ?_
            refine lv_iadd hx hb dX5_mended_46 ?_
            refine lv_iconst (v := (2 : Int32)) hx hb dX5_mended_47 (by decide) ?_
            refine lv_irem hx hb dX5_mended_48 (by decide) ?_
            refine lv_iload_n hx hb dX5_mended_49 rfl (lv_at hl 2 rfl) ?_
            refine lv_icmp_ne (tgt := 57) hx hb dX5_mended_50 (by decide) (fun c3 => ?_) (fun c3 => ?_)
            · rw [if_neg c3] at h
              refine lv_iconst (v := (0 : Int32)) hx hb dX5_mended_57 (by decide) ?_
              refine lv_iadd hx hb dX5_mended_58 ?_
              refine lv_istore_n (lv' := [(3, .int (l3 + (0 : Int32))), (0, .ref ax), (1, .int l1), (2, .int l2), (4, .int l4)]) hx hb dX5_mended_59 rfl hl (by decide) rfl (fun ls hl => ?_)
              refine lv_iinc (v := l4 + (1 : Int32)) (lv' := [(4, .int (l4 + (1 : Int32))), (3, .int (l3 + (0 : Int32))), (0, .ref ax), (1, .int l1), (2, .int l2)]) hx hb dX5_mended_60 hl (k := 4) rfl rfl (by decide) rfl (fun ls hl => ?_)
              refine lv_goto (tgt := 22) hx hb dX5_mended_63 (by decide) ?_
              exact ih l1 l2 (l3 + (0 : Int32)) (l4 + (1 : Int32)) rs H locs ls h (lv_sub hl [2, 3, 4, 1, 0] rfl) hP hD hS K
            · rw [if_pos c3] at h
              refine lv_iconst (v := (1 : Int32)) hx hb dX5_mended_53 (by decide) ?_
              refine lv_goto (tgt := 58) hx hb dX5_mended_54 (by decide) ?_
              refine lv_iadd hx hb dX5_mended_58 ?_
              refine lv_istore_n (lv' := [(3, .int (l3 + (1 : Int32))), (0, .ref ax), (1, .int l1), (2, .int l2), (4, .int l4)]) hx hb dX5_mended_59 rfl hl (by decide) rfl (fun ls hl => ?_)
              refine lv_iinc (v := l4 + (1 : Int32)) (lv' := [(4, .int (l4 + (1 : Int32))), (3, .int (l3 + (1 : Int32))), (0, .ref ax), (1, .int l1), (2, .int l2)]) hx hb dX5_mended_60 hl (k := 4) rfl rfl (by decide) rfl (fun ls hl => ?_)
              refine lv_goto (tgt := 22) hx hb dX5_mended_63 (by decide) ?_
              exact ih l1 l2 (l3 + (1 : Int32)) (l4 + (1 : Int32)) rs H locs ls h (lv_sub hl [2, 3, 4, 1, 0] rfl) hP hD hS K
      obtain ⟨q6, hq6, h⟩ := bd_some h
      refine L22_4 FU p0 p1 (0 : Int32) (0 : Int32) q6 H locs ls hq6 (lv_sub hl [2, 3, 4, 1, 0] rfl) hP hD hS (fun H locs ls hl hP hD hS => ?_)
      refine lv_iload_n hx hb dX5_mended_66 rfl (lv_at hl 3 rfl) ?_
      have h0 := Option.some.inj h
      subst h0
      exact W.iret hx hb hr (fun t ht hW => ⟨⟨_, (), rfl, rfl, QW_mk hP hK hD ht hW⟩, hS.F ht⟩) hS.2.2 dX5_mended_67
    · rw [if_pos c7] at h
      refine lv_bipush (v := (-2 : Int32)) hx hb dX5_mended_14 (by decide) ?_
      have h0 := Option.some.inj h
      subst h0
      exact W.iret hx hb hr (fun t ht hW => ⟨⟨_, (), rfl, rfl, QW_mk hP hK hD ht hW⟩, hS.F ht⟩) hS.2.2 dX5_mended_16

noncomputable def fX5_maySubject (vxn : Int32) (vxk : Int32) (p0 : Int32) (p1 : Int32) (p2 : Int32) : Option (Int32) := if p0 = 0 then (bd (fX5_isPlace vxn p1) fun r12 => if r12 = 0 then (some (0 : Int32)) else (bd (fX5_isPlace vxn p2) fun r13 => if r13 = 0 then (some (0 : Int32)) else (if p2 ≤ p1 then (some (0 : Int32)) else (some (1 : Int32))))) else (if p0 = (4 : Int32) then (bd (fX5_isEight p1) fun r7 => if r7 = 0 then (some (0 : Int32)) else (bd (fX5_isEight p2) fun r8 => if r8 = 0 then (some (0 : Int32)) else (some (1 : Int32)))) else (if p0 = (5 : Int32) then (bd (fX5_in p1 (0 : Int32) (63 : Int32)) fun r1 => if r1 = 0 then (some (0 : Int32)) else (bd (fX5_ones p1) fun r2 => if r2 = vxk then (if p2 = 0 then (some (1 : Int32)) else (some (0 : Int32))) else (some (0 : Int32)))) else (some (0 : Int32))))
set_option maxHeartbeats 4000000 in
set_option maxRecDepth 100000 in
theorem c_X5_maySubject (l : Launch) (dC : Nat → ClassId) (dI : Nat → Nat → Nat) (cy : ClassId) (ax axr axb axj axi axu : Nat) (sz : Nat) (vxn : Int32) (vxk : Int32) (vxA : Int64) (vxB : Int64) (vxC : Int64) (vxE : Int64) (p0 : Int32) (p1 : Int32) (p2 : Int32) (res : Int32) (h : fX5_maySubject vxn vxk p0 p1 p2 = some res) : Met l yX5_maySubject wsX5_maySubject ({ frames := 2, cells := 0, slots := 0, locals := 43 }) (va_Pc [.ref ax, .int p0, .int p1, .int p2] (PW (dC, dI) cy sz [(ax, .inr (5, [.int vxn, .ref axr, .ref axb, .ref axj, .int vxk, .ref axi, .ref axu, .long vxA, .long vxB, .long vxC, .long vxE]))])) (va_Qi (fun (r : Int32) (_ : Unit) => r = res ∧ bo r) (QW (dC, dI) cy (va_A [(ax, .inr (5, [.int vxn, .ref axr, .ref axb, .ref axj, .int vxk, .ref axi, .ref axu, .long vxA, .long vxB, .long vxC, .long vxE]))] sz) [(ax, .inr (5, [.int vxn, .ref axr, .ref axb, .ref axj, .int vxk, .ref axi, .ref axu, .long vxA, .long vxB, .long vxC, .long vxE]))]) (va_A [(ax, .inr (5, [.int vxn, .ref axr, .ref axb, .ref axj, .int vxk, .ref axi, .ref axu, .long vxA, .long vxB, .long vxC, .long vxE]))] sz)) 0 0 (va_A [(ax, .inr (5, [.int vxn, .ref axr, .ref axb, .ref axj, .int vxk, .ref axi, .ref axu, .long vxA, .long vxB, .long vxC, .long vxE]))] sz) := by
  refine Met.ofW (cc := cX5_maySubject) (maxL := 4) (ret := (some .boolean)) (by decide) rfl ?_
  intro p e s m args below meth c s₁ B hml hv
  obtain ⟨rfl, hsz, hP, hK, hD0, hN⟩ := hv
  have hx := B.exec
  have hb := B.bytes
  have hr := B.returns
  have hts := atoms_spec (ws := wsX5_maySubject) B.pre
  have hown : s.vm.findClass RX5 = some m.cls := findClass_of_methodNamed B.named
  have hlocks := B.notSynchronized
  subst hsz
  have hD := hD0.self (sz := s.heap.size)
  clear hD0
  generalize hAe : va_A [(ax, .inr (5, [.int vxn, .ref axr, .ref axb, .ref axj, .int vxk, .ref axi, .ref axu, .long vxA, .long vxB, .long vxC, .long vxE]))] s.heap.size = A at hD ⊢
  have hA : ∀ q : Nat, s.heap.size ≤ q → A q := fun q h => by rw [← hAe]; exact Or.inr h
  have hS : va_S A s.heap s.heap [] := va_S.rf
  have hl := lv_entry ([.ref ax, .int p0, .int p1, .int p2]) (n := 4) (Nat.le_of_ble_eq_true rfl)
  rw [lg_entry_eq]
  generalize (lg_sl ([.ref ax, .int p0, .int p1, .int p2]) ++ List.replicate (4 - (lg_sl ([.ref ax, .int p0, .int p1, .int p2])).length) Slot.unset).toArray = ls at hl ⊢
  replace hl : lv_has ls 4 [(0, .ref ax), (1, .int p0), (2, .int p1), (3, .int p2)] := hl
  replace hP : va_P (dC, dI) vwCl [(ax, .inr (5, [.int vxn, .ref axr, .ref axb, .ref axj, .int vxk, .ref axi, .ref axu, .long vxA, .long vxB, .long vxC, .long vxE]))] s.heap := hP
  obtain ⟨locs, hlocs⟩ : ∃ lc : List Loc, lc = [] := ⟨_, rfl⟩
  rw [← hlocs] at hS ⊢
  obtain ⟨H, hH⟩ : ∃ H : Heap, H = s.heap := ⟨_, rfl⟩
  have hP2 := hP; rw [← hH] at hP2
  have hS2 : va_S A s.heap H locs := by rw [hH]; exact hS
  suffices hgo : W p l e (headSpec wsX5_maySubject ({ frames := 2, cells := 0, slots := 0, locals := 43 })).room s m (([.ref ax, .int p0, .int p1, .int p2] : List Value).toArray) below meth c H locs 0 0 (MQ below (va_Qi (fun (r : Int32) (_ : Unit) => r = res ∧ bo r) (QW (dC, dI) cy A [(ax, .inr (5, [.int vxn, .ref axr, .ref axb, .ref axj, .int vxk, .ref axi, .ref axu, .long vxA, .long vxB, .long vxC, .long vxE]))]) A) (([.ref ax, .int p0, .int p1, .int p2] : List Value).toArray) s 0 0 A) (F0 m 0 ls []) by rw [hH] at hgo; exact hgo
  replace hP := hP2
  replace hS := hS2
  clear hP2 hS2
  have hin_X5 : ∀ w ∈ wsX50, w ∈ wsX5_maySubject := by decide +kernel
  have hf_23 := hts (.fieldLink RX5 23 "FewLooksModel" "k" "I") (by decide +kernel)
  unfold fX5_maySubject at h
  refine lv_iload_n hx hb dX5_maySubject_0 rfl (lv_at hl 1 rfl) ?_
  refine lv_if_ne (tgt := 31) hx hb dX5_maySubject_1 (by decide) (fun c17 => ?_) (fun c17 => ?_)
  · rw [if_neg c17] at h
    refine lv_iload_n hx hb dX5_maySubject_31 rfl (lv_at hl 1 rfl) ?_
    refine lv_iconst (v := (4 : Int32)) hx hb dX5_maySubject_32 (by decide) ?_
    refine lv_icmp_ne (tgt := 56) hx hb dX5_maySubject_33 (by decide) (fun c11 => ?_) (fun c11 => ?_)
    · rw [if_neg c11] at h
      refine lv_iload_n hx hb dX5_maySubject_56 rfl (lv_at hl 1 rfl) ?_
      refine lv_iconst (v := (5 : Int32)) hx hb dX5_maySubject_57 (by decide) ?_
      refine lv_icmp_ne (tgt := 90) hx hb dX5_maySubject_58 (by decide) (fun c6 => ?_) (fun c6 => ?_)
      · rw [if_neg c6] at h
        refine lv_iconst (v := (0 : Int32)) hx hb dX5_maySubject_90 (by decide) ?_
        have h0 := Option.some.inj h
        subst h0
        exact W.zret (ty := .boolean) hx hb hr bo_0 (fun t ht hW => ⟨⟨_, (), rfl, ⟨rfl, bo_0⟩, QW_mk hP hK hD ht hW⟩, hS.F ht⟩) hS.2.2 dX5_maySubject_91
      · rw [if_pos c6] at h
        refine lv_iload_n hx hb dX5_maySubject_61 rfl (lv_at hl 2 rfl) ?_
        refine lv_iconst (v := (0 : Int32)) hx hb dX5_maySubject_62 (by decide) ?_
        refine lv_bipush (v := (63 : Int32)) hx hb dX5_maySubject_63 (by decide) ?_
        obtain ⟨r1, hr1, h⟩ := bd_some h
        have hFc := va_free (wc := []) hD hS hA [] rfl
        refine va_calli (va_runS (As := [.int p1, .int (0 : Int32), .int (63 : Int32)]) (rest := []) ⟨hx, hb, hml, hown, hts⟩ (c_X5_in l dC dI cy  H.size  p1 (0 : Int32) (63 : Int32) r1 hr1) (va_cwS 3 hts gX5_maySubject_X5_in rfl rfl rfl (by decide +kernel) ⟨Nat.le_of_ble_eq_true rfl, Nat.le_of_ble_eq_true rfl⟩) ⟨PW_fb, PW_pre (hP.sub (ws' := []) [] rfl) hK (hD.sub [] (by decide) rfl) hN⟩ rfl rfl hl.1 rfl (lv_room (Nat.le_of_ble_eq_true rfl)) dX5_maySubject_65 ⟨Nat.zero_le _, Nat.zero_le _⟩) hS (fun q _ h => hFc q h) hFc (fun rz u t H locs ht hvm hw hB hz1 hk1 hS => ?_)
        obtain ⟨hP, hD⟩ := jn (wr := [(ax, .inr (5, [.int vxn, .ref axr, .ref axb, .ref axj, .int vxk, .ref axi, .ref axu, .long vxA, .long vxB, .long vxC, .long vxE]))]) (w1 := []) (ws' := [(ax, .inr (5, [.int vxn, .ref axr, .ref axb, .ref axj, .int vxk, .ref axi, .ref axu, .long vxA, .long vxB, .long vxC, .long vxE]))]) hP hD [] [0] rfl rfl (by decide) (by decide) hk1 hFc hB ht [0] rfl (by decide) rfl
        obtain ⟨hw, br1⟩ := hw
        replace hw := hw.symm
        subst hw
        clear hFc hB hk1 hz1 hvm
        refine lv_if_eq (tgt := 90) hx hb dX5_maySubject_68 (by decide) (fun c5 => ?_) (fun c5 => ?_)
        · rw [if_pos c5] at h
          refine lv_iconst (v := (0 : Int32)) hx hb dX5_maySubject_90 (by decide) ?_
          have h0 := Option.some.inj h
          subst h0
          exact W.zret (ty := .boolean) hx hb hr bo_0 (fun t ht hW => ⟨⟨_, (), rfl, ⟨rfl, bo_0⟩, QW_mk hP hK hD ht hW⟩, hS.F ht⟩) hS.2.2 dX5_maySubject_91
        · rw [if_neg c5] at h
          refine lv_iload_n hx hb dX5_maySubject_71 rfl (lv_at hl 2 rfl) ?_
          obtain ⟨r2, hr2, h⟩ := bd_some h
          have hFc := va_free (wc := []) hD hS hA [] rfl
          refine va_calli (va_runS (As := [.int p1]) (rest := []) ⟨hx, hb, hml, hown, hts⟩ (c_X5_ones l dC dI cy  H.size  p1 r2 hr2) (va_cwS 1 hts gX5_maySubject_X5_ones rfl rfl rfl (by decide +kernel) ⟨Nat.le_of_ble_eq_true rfl, Nat.le_of_ble_eq_true rfl⟩) ⟨PW_fb, PW_pre (hP.sub (ws' := []) [] rfl) hK (hD.sub [] (by decide) rfl) hN⟩ rfl rfl hl.1 rfl (lv_room (Nat.le_of_ble_eq_true rfl)) dX5_maySubject_72 ⟨Nat.zero_le _, Nat.zero_le _⟩) hS (fun q _ h => hFc q h) hFc (fun rz u t H locs ht hvm hw hB hz1 hk1 hS => ?_)
          obtain ⟨hP, hD⟩ := jn (wr := [(ax, .inr (5, [.int vxn, .ref axr, .ref axb, .ref axj, .int vxk, .ref axi, .ref axu, .long vxA, .long vxB, .long vxC, .long vxE]))]) (w1 := []) (ws' := [(ax, .inr (5, [.int vxn, .ref axr, .ref axb, .ref axj, .int vxk, .ref axi, .ref axu, .long vxA, .long vxB, .long vxC, .long vxE]))]) hP hD [] [0] rfl rfl (by decide) (by decide) hk1 hFc hB ht [0] rfl (by decide) rfl
          replace hw := hw.symm
          subst hw
          clear hFc hB hk1 hz1 hvm
          refine lv_aload_n hx hb dX5_maySubject_75 rfl (lv_at hl 0 rfl) ?_
          refine va_get (D := (dC, dI)) (ci := 5) (v := .int vxk) (C := RX5) (T := TX5) (N := 11) hx hb hts hin_X5 hown hK hP 0 rfl rfl 4 (by decide) (hf_23) (fun _ h9 => h9) rfl dX5_maySubject_76 ?_
          refine lv_icmp_ne (tgt := 90) hx hb dX5_maySubject_79 (by decide) (fun c4 => ?_) (fun c4 => ?_)
          · rw [if_neg c4] at h
            refine lv_iconst (v := (0 : Int32)) hx hb dX5_maySubject_90 (by decide) ?_
            have h0 := Option.some.inj h
            subst h0
            exact W.zret (ty := .boolean) hx hb hr bo_0 (fun t ht hW => ⟨⟨_, (), rfl, ⟨rfl, bo_0⟩, QW_mk hP hK hD ht hW⟩, hS.F ht⟩) hS.2.2 dX5_maySubject_91
          · rw [if_pos c4] at h
            refine lv_iload_n hx hb dX5_maySubject_82 rfl (lv_at hl 3 rfl) ?_
            refine lv_if_ne (tgt := 90) hx hb dX5_maySubject_83 (by decide) (fun c3 => ?_) (fun c3 => ?_)
            · rw [if_neg c3] at h
              refine lv_iconst (v := (0 : Int32)) hx hb dX5_maySubject_90 (by decide) ?_
              have h0 := Option.some.inj h
              subst h0
              exact W.zret (ty := .boolean) hx hb hr bo_0 (fun t ht hW => ⟨⟨_, (), rfl, ⟨rfl, bo_0⟩, QW_mk hP hK hD ht hW⟩, hS.F ht⟩) hS.2.2 dX5_maySubject_91
            · rw [if_pos c3] at h
              refine lv_iconst (v := (1 : Int32)) hx hb dX5_maySubject_86 (by decide) ?_
              refine lv_goto (tgt := 91) hx hb dX5_maySubject_87 (by decide) ?_
              have h0 := Option.some.inj h
              subst h0
              exact W.zret (ty := .boolean) hx hb hr bo_1 (fun t ht hW => ⟨⟨_, (), rfl, ⟨rfl, bo_1⟩, QW_mk hP hK hD ht hW⟩, hS.F ht⟩) hS.2.2 dX5_maySubject_91
    · rw [if_pos c11] at h
      refine lv_iload_n hx hb dX5_maySubject_36 rfl (lv_at hl 2 rfl) ?_
      obtain ⟨r7, hr7, h⟩ := bd_some h
      have hFc := va_free (wc := []) hD hS hA [] rfl
      refine va_calli (va_runS (As := [.int p1]) (rest := []) ⟨hx, hb, hml, hown, hts⟩ (c_X5_isEight l dC dI cy  H.size  p1 r7 hr7) (va_cwS 1 hts gX5_maySubject_X5_isEight rfl rfl rfl (by decide +kernel) ⟨Nat.le_of_ble_eq_true rfl, Nat.le_of_ble_eq_true rfl⟩) ⟨PW_fb, PW_pre (hP.sub (ws' := []) [] rfl) hK (hD.sub [] (by decide) rfl) hN⟩ rfl rfl hl.1 rfl (lv_room (Nat.le_of_ble_eq_true rfl)) dX5_maySubject_37 ⟨Nat.zero_le _, Nat.zero_le _⟩) hS (fun q _ h => hFc q h) hFc (fun rz u t H locs ht hvm hw hB hz1 hk1 hS => ?_)
      obtain ⟨hP, hD⟩ := jn (wr := [(ax, .inr (5, [.int vxn, .ref axr, .ref axb, .ref axj, .int vxk, .ref axi, .ref axu, .long vxA, .long vxB, .long vxC, .long vxE]))]) (w1 := []) (ws' := [(ax, .inr (5, [.int vxn, .ref axr, .ref axb, .ref axj, .int vxk, .ref axi, .ref axu, .long vxA, .long vxB, .long vxC, .long vxE]))]) hP hD [] [0] rfl rfl (by decide) (by decide) hk1 hFc hB ht [0] rfl (by decide) rfl
      obtain ⟨hw, br7⟩ := hw
      replace hw := hw.symm
      subst hw
      clear hFc hB hk1 hz1 hvm
      refine lv_if_eq (tgt := 54) hx hb dX5_maySubject_40 (by decide) (fun c10 => ?_) (fun c10 => ?_)
      · rw [if_pos c10] at h
        refine lv_iconst (v := (0 : Int32)) hx hb dX5_maySubject_54 (by decide) ?_
        have h0 := Option.some.inj h
        subst h0
        exact W.zret (ty := .boolean) hx hb hr bo_0 (fun t ht hW => ⟨⟨_, (), rfl, ⟨rfl, bo_0⟩, QW_mk hP hK hD ht hW⟩, hS.F ht⟩) hS.2.2 dX5_maySubject_55
      · rw [if_neg c10] at h
        refine lv_iload_n hx hb dX5_maySubject_43 rfl (lv_at hl 3 rfl) ?_
        obtain ⟨r8, hr8, h⟩ := bd_some h
        have hFc := va_free (wc := []) hD hS hA [] rfl
        refine va_calli (va_runS (As := [.int p2]) (rest := []) ⟨hx, hb, hml, hown, hts⟩ (c_X5_isEight l dC dI cy  H.size  p2 r8 hr8) (va_cwS 1 hts gX5_maySubject_X5_isEight rfl rfl rfl (by decide +kernel) ⟨Nat.le_of_ble_eq_true rfl, Nat.le_of_ble_eq_true rfl⟩) ⟨PW_fb, PW_pre (hP.sub (ws' := []) [] rfl) hK (hD.sub [] (by decide) rfl) hN⟩ rfl rfl hl.1 rfl (lv_room (Nat.le_of_ble_eq_true rfl)) dX5_maySubject_44 ⟨Nat.zero_le _, Nat.zero_le _⟩) hS (fun q _ h => hFc q h) hFc (fun rz u t H locs ht hvm hw hB hz1 hk1 hS => ?_)
        obtain ⟨hP, hD⟩ := jn (wr := [(ax, .inr (5, [.int vxn, .ref axr, .ref axb, .ref axj, .int vxk, .ref axi, .ref axu, .long vxA, .long vxB, .long vxC, .long vxE]))]) (w1 := []) (ws' := [(ax, .inr (5, [.int vxn, .ref axr, .ref axb, .ref axj, .int vxk, .ref axi, .ref axu, .long vxA, .long vxB, .long vxC, .long vxE]))]) hP hD [] [0] rfl rfl (by decide) (by decide) hk1 hFc hB ht [0] rfl (by decide) rfl
        obtain ⟨hw, br8⟩ := hw
        replace hw := hw.symm
        subst hw
        clear hFc hB hk1 hz1 hvm
        refine lv_if_eq (tgt := 54) hx hb dX5_maySubject_47 (by decide) (fun c9 => ?_) (fun c9 => ?_)
        · rw [if_pos c9] at h
          refine lv_iconst (v := (0 : Int32)) hx hb dX5_maySubject_54 (by decide) ?_
          have h0 := Option.some.inj h
          subst h0
          exact W.zret (ty := .boolean) hx hb hr bo_0 (fun t ht hW => ⟨⟨_, (), rfl, ⟨rfl, bo_0⟩, QW_mk hP hK hD ht hW⟩, hS.F ht⟩) hS.2.2 dX5_maySubject_55
        · rw [if_neg c9] at h
          refine lv_iconst (v := (1 : Int32)) hx hb dX5_maySubject_50 (by decide) ?_
          refine lv_goto (tgt := 55) hx hb dX5_maySubject_51 (by decide) ?_
          have h0 := Option.some.inj h
          subst h0
          exact W.zret (ty := .boolean) hx hb hr bo_1 (fun t ht hW => ⟨⟨_, (), rfl, ⟨rfl, bo_1⟩, QW_mk hP hK hD ht hW⟩, hS.F ht⟩) hS.2.2 dX5_maySubject_55
  · rw [if_pos c17] at h
    refine lv_aload_n hx hb dX5_maySubject_4 rfl (lv_at hl 0 rfl) ?_
    refine lv_iload_n hx hb dX5_maySubject_5 rfl (lv_at hl 2 rfl) ?_
    obtain ⟨r12, hr12, h⟩ := bd_some h
    have hFc := va_free (wc := [(ax, .inr (5, [.int vxn, .ref axr, .ref axb, .ref axj, .int vxk, .ref axi, .ref axu, .long vxA, .long vxB, .long vxC, .long vxE]))]) hD hS hA [0] rfl
    refine va_calli (va_runV (As := [.int p1]) (rest := []) ⟨hx, hb, hml, hown, hts⟩ (c_X5_isPlace l dC dI cy ax axr axb axj axi axu H.size vxn vxk vxA vxB vxC vxE p1 r12 hr12) (cwV 1 hts gX5_maySubject_X5_isPlace rfl rfl rfl (by decide +kernel) ⟨Nat.le_of_ble_eq_true rfl, Nat.le_of_ble_eq_true rfl⟩) ⟨PW_fb, va_recv hK hP (ci := 5) (q0 := 0) rfl rfl, PW_pre (hP.sub (ws' := [(ax, .inr (5, [.int vxn, .ref axr, .ref axb, .ref axj, .int vxk, .ref axi, .ref axu, .long vxA, .long vxB, .long vxC, .long vxE]))]) [0] rfl) hK (hD.sub [0] (by decide) rfl) hN⟩ rfl rfl hl.1 rfl (lv_room (Nat.le_of_ble_eq_true rfl)) dX5_maySubject_6 ⟨Nat.zero_le _, Nat.zero_le _⟩) hS (fun q _ h => hFc q h) hFc (fun rz u t H locs ht hvm hw hB hz1 hk1 hS => ?_)
    obtain ⟨hP, hD⟩ := jn (wr := []) (w1 := [(ax, .inr (5, [.int vxn, .ref axr, .ref axb, .ref axj, .int vxk, .ref axi, .ref axu, .long vxA, .long vxB, .long vxC, .long vxE]))]) (ws' := [(ax, .inr (5, [.int vxn, .ref axr, .ref axb, .ref axj, .int vxk, .ref axi, .ref axu, .long vxA, .long vxB, .long vxC, .long vxE]))]) hP hD [0] [] rfl rfl (by decide) (by decide) hk1 hFc hB ht [0] rfl (by decide) rfl
    obtain ⟨hw, br12⟩ := hw
    replace hw := hw.symm
    subst hw
    clear hFc hB hk1 hz1 hvm
    refine lv_if_eq (tgt := 29) hx hb dX5_maySubject_9 (by decide) (fun c16 => ?_) (fun c16 => ?_)
    · rw [if_pos c16] at h
      refine lv_iconst (v := (0 : Int32)) hx hb dX5_maySubject_29 (by decide) ?_
      have h0 := Option.some.inj h
      subst h0
      exact W.zret (ty := .boolean) hx hb hr bo_0 (fun t ht hW => ⟨⟨_, (), rfl, ⟨rfl, bo_0⟩, QW_mk hP hK hD ht hW⟩, hS.F ht⟩) hS.2.2 dX5_maySubject_30
    · rw [if_neg c16] at h
      refine lv_aload_n hx hb dX5_maySubject_12 rfl (lv_at hl 0 rfl) ?_
      refine lv_iload_n hx hb dX5_maySubject_13 rfl (lv_at hl 3 rfl) ?_
      obtain ⟨r13, hr13, h⟩ := bd_some h
      have hFc := va_free (wc := [(ax, .inr (5, [.int vxn, .ref axr, .ref axb, .ref axj, .int vxk, .ref axi, .ref axu, .long vxA, .long vxB, .long vxC, .long vxE]))]) hD hS hA [0] rfl
      refine va_calli (va_runV (As := [.int p2]) (rest := []) ⟨hx, hb, hml, hown, hts⟩ (c_X5_isPlace l dC dI cy ax axr axb axj axi axu H.size vxn vxk vxA vxB vxC vxE p2 r13 hr13) (cwV 1 hts gX5_maySubject_X5_isPlace rfl rfl rfl (by decide +kernel) ⟨Nat.le_of_ble_eq_true rfl, Nat.le_of_ble_eq_true rfl⟩) ⟨PW_fb, va_recv hK hP (ci := 5) (q0 := 0) rfl rfl, PW_pre (hP.sub (ws' := [(ax, .inr (5, [.int vxn, .ref axr, .ref axb, .ref axj, .int vxk, .ref axi, .ref axu, .long vxA, .long vxB, .long vxC, .long vxE]))]) [0] rfl) hK (hD.sub [0] (by decide) rfl) hN⟩ rfl rfl hl.1 rfl (lv_room (Nat.le_of_ble_eq_true rfl)) dX5_maySubject_14 ⟨Nat.zero_le _, Nat.zero_le _⟩) hS (fun q _ h => hFc q h) hFc (fun rz u t H locs ht hvm hw hB hz1 hk1 hS => ?_)
      obtain ⟨hP, hD⟩ := jn (wr := []) (w1 := [(ax, .inr (5, [.int vxn, .ref axr, .ref axb, .ref axj, .int vxk, .ref axi, .ref axu, .long vxA, .long vxB, .long vxC, .long vxE]))]) (ws' := [(ax, .inr (5, [.int vxn, .ref axr, .ref axb, .ref axj, .int vxk, .ref axi, .ref axu, .long vxA, .long vxB, .long vxC, .long vxE]))]) hP hD [0] [] rfl rfl (by decide) (by decide) hk1 hFc hB ht [0] rfl (by decide) rfl
      obtain ⟨hw, br13⟩ := hw
      replace hw := hw.symm
      subst hw
      clear hFc hB hk1 hz1 hvm
      refine lv_if_eq (tgt := 29) hx hb dX5_maySubject_17 (by decide) (fun c15 => ?_) (fun c15 => ?_)
      · rw [if_pos c15] at h
        refine lv_iconst (v := (0 : Int32)) hx hb dX5_maySubject_29 (by decide) ?_
        have h0 := Option.some.inj h
        subst h0
        exact W.zret (ty := .boolean) hx hb hr bo_0 (fun t ht hW => ⟨⟨_, (), rfl, ⟨rfl, bo_0⟩, QW_mk hP hK hD ht hW⟩, hS.F ht⟩) hS.2.2 dX5_maySubject_30
      · rw [if_neg c15] at h
        refine lv_iload_n hx hb dX5_maySubject_20 rfl (lv_at hl 2 rfl) ?_
        refine lv_iload_n hx hb dX5_maySubject_21 rfl (lv_at hl 3 rfl) ?_
        refine lv_icmp_ge (tgt := 29) hx hb dX5_maySubject_22 (by decide) (fun c14 => ?_) (fun c14 => ?_)
        · rw [if_pos c14] at h
          refine lv_iconst (v := (0 : Int32)) hx hb dX5_maySubject_29 (by decide) ?_
          have h0 := Option.some.inj h
          subst h0
          exact W.zret (ty := .boolean) hx hb hr bo_0 (fun t ht hW => ⟨⟨_, (), rfl, ⟨rfl, bo_0⟩, QW_mk hP hK hD ht hW⟩, hS.F ht⟩) hS.2.2 dX5_maySubject_30
        · rw [if_neg c14] at h
          refine lv_iconst (v := (1 : Int32)) hx hb dX5_maySubject_25 (by decide) ?_
          refine lv_goto (tgt := 30) hx hb dX5_maySubject_26 (by decide) ?_
          have h0 := Option.some.inj h
          subst h0
          exact W.zret (ty := .boolean) hx hb hr bo_1 (fun t ht hW => ⟨⟨_, (), rfl, ⟨rfl, bo_1⟩, QW_mk hP hK hD ht hW⟩, hS.F ht⟩) hS.2.2 dX5_maySubject_30

noncomputable def fX5_showsOf (fxr : Nat → Int32) (fxb : Nat → Int32) (fxj : Nat → Int32) (p0 : Int32) (p1 : Int32) (p2 : Int32) : Option (Int32) := if p0 = 0 then (gin p1 8 (gin p2 8 (if (fxr p1.toNatClampNeg) ≤ (fxr p2.toNatClampNeg) then (some (0 : Int32)) else (some (1 : Int32))))) else (if p0 = (4 : Int32) then (gin p1 8 (gin p2 8 (gin (p1 ^^^ p2) 8 (bd (fX5_passesTable (fxb p1.toNatClampNeg) (fxb p2.toNatClampNeg) (fxb (p1 ^^^ p2).toNatClampNeg)) fun r3 => if r3 = 0 then (some (1 : Int32)) else (some (0 : Int32)))))) else (bd (fX5_passesNet fxj p1) fun r1 => if r1 = 0 then (some (1 : Int32)) else (some (0 : Int32))))
set_option maxHeartbeats 4000000 in
set_option maxRecDepth 100000 in
theorem c_X5_showsOf (l : Launch) (dC : Nat → ClassId) (dI : Nat → Nat → Nat) (cy : ClassId) (ax axr axb axj axi axu : Nat) (sz : Nat) (vxn : Int32) (vxk : Int32) (vxA : Int64) (vxB : Int64) (vxC : Int64) (vxE : Int64) (fxr : Nat → Int32) (fxb : Nat → Int32) (fxj : Nat → Int32) (p0 : Int32) (p1 : Int32) (p2 : Int32) (res : Int32) (h : fX5_showsOf fxr fxb fxj p0 p1 p2 = some res) : Met l yX5_showsOf wsX5_showsOf ({ frames := 3, cells := 0, slots := 0, locals := 70 }) (va_Pc [.ref ax, .int p0, .int p1, .int p2] (PW (dC, dI) cy sz [(ax, .inr (5, [.int vxn, .ref axr, .ref axb, .ref axj, .int vxk, .ref axi, .ref axu, .long vxA, .long vxB, .long vxC, .long vxE])), (axr, .inl (cy, 8, .inl fxr)), (axb, .inl (cy, 8, .inl fxb)), (axj, .inl (cy, 6, .inl fxj))])) (va_Qi (fun (r : Int32) (_ : Unit) => r = res ∧ bo r) (QW (dC, dI) cy (va_A [(ax, .inr (5, [.int vxn, .ref axr, .ref axb, .ref axj, .int vxk, .ref axi, .ref axu, .long vxA, .long vxB, .long vxC, .long vxE])), (axr, .inl (cy, 8, .inl fxr)), (axb, .inl (cy, 8, .inl fxb)), (axj, .inl (cy, 6, .inl fxj))] sz) [(ax, .inr (5, [.int vxn, .ref axr, .ref axb, .ref axj, .int vxk, .ref axi, .ref axu, .long vxA, .long vxB, .long vxC, .long vxE])), (axr, .inl (cy, 8, .inl fxr)), (axb, .inl (cy, 8, .inl fxb)), (axj, .inl (cy, 6, .inl fxj))]) (va_A [(ax, .inr (5, [.int vxn, .ref axr, .ref axb, .ref axj, .int vxk, .ref axi, .ref axu, .long vxA, .long vxB, .long vxC, .long vxE])), (axr, .inl (cy, 8, .inl fxr)), (axb, .inl (cy, 8, .inl fxb)), (axj, .inl (cy, 6, .inl fxj))] sz)) 0 0 (va_A [(ax, .inr (5, [.int vxn, .ref axr, .ref axb, .ref axj, .int vxk, .ref axi, .ref axu, .long vxA, .long vxB, .long vxC, .long vxE])), (axr, .inl (cy, 8, .inl fxr)), (axb, .inl (cy, 8, .inl fxb)), (axj, .inl (cy, 6, .inl fxj))] sz) := by
  refine Met.ofW (cc := cX5_showsOf) (maxL := 4) (ret := (some .boolean)) (by decide) rfl ?_
  intro p e s m args below meth c s₁ B hml hv
  obtain ⟨rfl, hsz, hP, hK, hD0, hN⟩ := hv
  have hx := B.exec
  have hb := B.bytes
  have hr := B.returns
  have hts := atoms_spec (ws := wsX5_showsOf) B.pre
  have hown : s.vm.findClass RX5 = some m.cls := findClass_of_methodNamed B.named
  have hlocks := B.notSynchronized
  subst hsz
  have hD := hD0.self (sz := s.heap.size)
  clear hD0
  generalize hAe : va_A [(ax, .inr (5, [.int vxn, .ref axr, .ref axb, .ref axj, .int vxk, .ref axi, .ref axu, .long vxA, .long vxB, .long vxC, .long vxE])), (axr, .inl (cy, 8, .inl fxr)), (axb, .inl (cy, 8, .inl fxb)), (axj, .inl (cy, 6, .inl fxj))] s.heap.size = A at hD ⊢
  have hA : ∀ q : Nat, s.heap.size ≤ q → A q := fun q h => by rw [← hAe]; exact Or.inr h
  have hS : va_S A s.heap s.heap [] := va_S.rf
  have hl := lv_entry ([.ref ax, .int p0, .int p1, .int p2]) (n := 4) (Nat.le_of_ble_eq_true rfl)
  rw [lg_entry_eq]
  generalize (lg_sl ([.ref ax, .int p0, .int p1, .int p2]) ++ List.replicate (4 - (lg_sl ([.ref ax, .int p0, .int p1, .int p2])).length) Slot.unset).toArray = ls at hl ⊢
  replace hl : lv_has ls 4 [(0, .ref ax), (1, .int p0), (2, .int p1), (3, .int p2)] := hl
  replace hP : va_P (dC, dI) vwCl [(ax, .inr (5, [.int vxn, .ref axr, .ref axb, .ref axj, .int vxk, .ref axi, .ref axu, .long vxA, .long vxB, .long vxC, .long vxE])), (axr, .inl (cy, 8, .inl fxr)), (axb, .inl (cy, 8, .inl fxb)), (axj, .inl (cy, 6, .inl fxj))] s.heap := hP
  obtain ⟨locs, hlocs⟩ : ∃ lc : List Loc, lc = [] := ⟨_, rfl⟩
  rw [← hlocs] at hS ⊢
  obtain ⟨H, hH⟩ : ∃ H : Heap, H = s.heap := ⟨_, rfl⟩
  have hP2 := hP; rw [← hH] at hP2
  have hS2 : va_S A s.heap H locs := by rw [hH]; exact hS
  suffices hgo : W p l e (headSpec wsX5_showsOf ({ frames := 3, cells := 0, slots := 0, locals := 70 })).room s m (([.ref ax, .int p0, .int p1, .int p2] : List Value).toArray) below meth c H locs 0 0 (MQ below (va_Qi (fun (r : Int32) (_ : Unit) => r = res ∧ bo r) (QW (dC, dI) cy A [(ax, .inr (5, [.int vxn, .ref axr, .ref axb, .ref axj, .int vxk, .ref axi, .ref axu, .long vxA, .long vxB, .long vxC, .long vxE])), (axr, .inl (cy, 8, .inl fxr)), (axb, .inl (cy, 8, .inl fxb)), (axj, .inl (cy, 6, .inl fxj))]) A) (([.ref ax, .int p0, .int p1, .int p2] : List Value).toArray) s 0 0 A) (F0 m 0 ls []) by rw [hH] at hgo; exact hgo
  replace hP := hP2
  replace hS := hS2
  clear hP2 hS2
  have hin_X5 : ∀ w ∈ wsX50, w ∈ wsX5_showsOf := by decide +kernel
  have hf_13 := hts (.fieldLink RX5 13 "FewLooksModel" "row" "[I") (by decide +kernel)
  have hf_17 := hts (.fieldLink RX5 17 "FewLooksModel" "table" "[I") (by decide +kernel)
  unfold fX5_showsOf at h
  refine lv_iload_n hx hb dX5_showsOf_0 rfl (lv_at hl 1 rfl) ?_
  refine lv_if_ne (tgt := 27) hx hb dX5_showsOf_1 (by decide) (fun c7 => ?_) (fun c7 => ?_)
  · rw [if_neg c7] at h
    refine lv_iload_n hx hb dX5_showsOf_27 rfl (lv_at hl 1 rfl) ?_
    refine lv_iconst (v := (4 : Int32)) hx hb dX5_showsOf_28 (by decide) ?_
    refine lv_icmp_ne (tgt := 66) hx hb dX5_showsOf_29 (by decide) (fun c5 => ?_) (fun c5 => ?_)
    · rw [if_neg c5] at h
      refine lv_aload_n hx hb dX5_showsOf_66 rfl (lv_at hl 0 rfl) ?_
      refine lv_iload_n hx hb dX5_showsOf_67 rfl (lv_at hl 2 rfl) ?_
      obtain ⟨r1, hr1, h⟩ := bd_some h
      have hFc := va_free (wc := [(ax, .inr (5, [.int vxn, .ref axr, .ref axb, .ref axj, .int vxk, .ref axi, .ref axu, .long vxA, .long vxB, .long vxC, .long vxE])), (axj, .inl (cy, 6, .inl fxj))]) hD hS hA [0, 3] rfl
      refine va_calli (va_runV (As := [.int p1]) (rest := []) ⟨hx, hb, hml, hown, hts⟩ (c_X5_passesNet l dC dI cy ax axr axb axj axi axu H.size vxn vxk vxA vxB vxC vxE fxj p1 r1 hr1) (cwV 1 hts gX5_showsOf_X5_passesNet rfl rfl rfl (by decide +kernel) ⟨Nat.le_of_ble_eq_true rfl, Nat.le_of_ble_eq_true rfl⟩) ⟨PW_fb, va_recv hK hP (ci := 5) (q0 := 0) rfl rfl, PW_pre (hP.sub (ws' := [(ax, .inr (5, [.int vxn, .ref axr, .ref axb, .ref axj, .int vxk, .ref axi, .ref axu, .long vxA, .long vxB, .long vxC, .long vxE])), (axj, .inl (cy, 6, .inl fxj))]) [0, 3] rfl) hK (hD.sub [0, 3] (by decide) rfl) hN⟩ rfl rfl hl.1 rfl (lv_room (Nat.le_of_ble_eq_true rfl)) dX5_showsOf_68 ⟨Nat.zero_le _, Nat.zero_le _⟩) hS (fun q _ h => hFc q h) hFc (fun rz u t H locs ht hvm hw hB hz1 hk1 hS => ?_)
      obtain ⟨hP, hD⟩ := jn (wr := [(axr, .inl (cy, 8, .inl fxr)), (axb, .inl (cy, 8, .inl fxb))]) (w1 := [(ax, .inr (5, [.int vxn, .ref axr, .ref axb, .ref axj, .int vxk, .ref axi, .ref axu, .long vxA, .long vxB, .long vxC, .long vxE])), (axj, .inl (cy, 6, .inl fxj))]) (ws' := [(ax, .inr (5, [.int vxn, .ref axr, .ref axb, .ref axj, .int vxk, .ref axi, .ref axu, .long vxA, .long vxB, .long vxC, .long vxE])), (axr, .inl (cy, 8, .inl fxr)), (axb, .inl (cy, 8, .inl fxb)), (axj, .inl (cy, 6, .inl fxj))]) hP hD [0, 3] [1, 2] rfl rfl (by decide) (by decide) hk1 hFc hB ht [2, 0, 1, 3] rfl (by decide) rfl
      obtain ⟨hw, br1⟩ := hw
      replace hw := hw.symm
      subst hw
      clear hFc hB hk1 hz1 hvm
      refine lv_if_ne (tgt := 78) hx hb dX5_showsOf_71 (by decide) (fun c2 => ?_) (fun c2 => ?_)
      · rw [if_neg c2] at h
        refine lv_iconst (v := (0 : Int32)) hx hb dX5_showsOf_78 (by decide) ?_
        have h0 := Option.some.inj h
        subst h0
        exact W.zret (ty := .boolean) hx hb hr bo_0 (fun t ht hW => ⟨⟨_, (), rfl, ⟨rfl, bo_0⟩, QW_mk hP hK hD ht hW⟩, hS.F ht⟩) hS.2.2 dX5_showsOf_79
      · rw [if_pos c2] at h
        refine lv_iconst (v := (1 : Int32)) hx hb dX5_showsOf_74 (by decide) ?_
        refine lv_goto (tgt := 79) hx hb dX5_showsOf_75 (by decide) ?_
        have h0 := Option.some.inj h
        subst h0
        exact W.zret (ty := .boolean) hx hb hr bo_1 (fun t ht hW => ⟨⟨_, (), rfl, ⟨rfl, bo_1⟩, QW_mk hP hK hD ht hW⟩, hS.F ht⟩) hS.2.2 dX5_showsOf_79
    · rw [if_pos c5] at h
      refine lv_aload_n hx hb dX5_showsOf_32 rfl (lv_at hl 0 rfl) ?_
      refine va_get (D := (dC, dI)) (ci := 5) (v := .ref axb) (C := RX5) (T := TX5) (N := 11) hx hb hts hin_X5 hown hK hP 0 rfl rfl 2 (by decide) (hf_17) (fun _ h9 => h9) rfl dX5_showsOf_33 ?_
      refine lv_iload_n hx hb dX5_showsOf_36 rfl (lv_at hl 2 rfl) ?_
      obtain ⟨hi, h⟩ := gin_some h
      refine va_iald hx hb hK hP 2 0 rfl rfl hi dX5_showsOf_37 ?_
      refine lv_aload_n hx hb dX5_showsOf_38 rfl (lv_at hl 0 rfl) ?_
      refine va_get (D := (dC, dI)) (ci := 5) (v := .ref axb) (C := RX5) (T := TX5) (N := 11) hx hb hts hin_X5 hown hK hP 0 rfl rfl 2 (by decide) (hf_17) (fun _ h9 => h9) rfl dX5_showsOf_39 ?_
      refine lv_iload_n hx hb dX5_showsOf_42 rfl (lv_at hl 3 rfl) ?_
      obtain ⟨hi, h⟩ := gin_some h
      refine va_iald hx hb hK hP 2 0 rfl rfl hi dX5_showsOf_43 ?_
      refine lv_aload_n hx hb dX5_showsOf_44 rfl (lv_at hl 0 rfl) ?_
      refine va_get (D := (dC, dI)) (ci := 5) (v := .ref axb) (C := RX5) (T := TX5) (N := 11) hx hb hts hin_X5 hown hK hP 0 rfl rfl 2 (by decide) (hf_17) (fun _ h9 => h9) rfl dX5_showsOf_45 ?_
      refine lv_iload_n hx hb dX5_showsOf_48 rfl (lv_at hl 2 rfl) ?_
      refine lv_iload_n hx hb dX5_showsOf_49 rfl (lv_at hl 3 rfl) ?_
      refine lv_ixor hx hb dX5_showsOf_50 ?_
      obtain ⟨hi, h⟩ := gin_some h
      refine va_iald hx hb hK hP 2 0 rfl rfl hi dX5_showsOf_51 ?_
      obtain ⟨r3, hr3, h⟩ := bd_some h
      have hFc := va_free (wc := []) hD hS hA [] rfl
      refine va_calli (va_runS (As := [.int (fxb p1.toNatClampNeg), .int (fxb p2.toNatClampNeg), .int (fxb (p1 ^^^ p2).toNatClampNeg)]) (rest := []) ⟨hx, hb, hml, hown, hts⟩ (c_X5_passesTable l dC dI cy  H.size  (fxb p1.toNatClampNeg) (fxb p2.toNatClampNeg) (fxb (p1 ^^^ p2).toNatClampNeg) r3 hr3) (va_cwS 3 hts gX5_showsOf_X5_passesTable rfl rfl rfl (by decide +kernel) ⟨Nat.le_of_ble_eq_true rfl, Nat.le_of_ble_eq_true rfl⟩) ⟨PW_fb, PW_pre (hP.sub (ws' := []) [] rfl) hK (hD.sub [] (by decide) rfl) hN⟩ rfl rfl hl.1 rfl (lv_room (Nat.le_of_ble_eq_true rfl)) dX5_showsOf_52 ⟨Nat.zero_le _, Nat.zero_le _⟩) hS (fun q _ h => hFc q h) hFc (fun rz u t H locs ht hvm hw hB hz1 hk1 hS => ?_)
      obtain ⟨hP, hD⟩ := jn (wr := [(ax, .inr (5, [.int vxn, .ref axr, .ref axb, .ref axj, .int vxk, .ref axi, .ref axu, .long vxA, .long vxB, .long vxC, .long vxE])), (axr, .inl (cy, 8, .inl fxr)), (axb, .inl (cy, 8, .inl fxb)), (axj, .inl (cy, 6, .inl fxj))]) (w1 := []) (ws' := [(ax, .inr (5, [.int vxn, .ref axr, .ref axb, .ref axj, .int vxk, .ref axi, .ref axu, .long vxA, .long vxB, .long vxC, .long vxE])), (axr, .inl (cy, 8, .inl fxr)), (axb, .inl (cy, 8, .inl fxb)), (axj, .inl (cy, 6, .inl fxj))]) hP hD [] [0, 1, 2, 3] rfl rfl (by decide) (by decide) hk1 hFc hB ht [0, 1, 2, 3] rfl (by decide) rfl
      obtain ⟨hw, br3⟩ := hw
      replace hw := hw.symm
      subst hw
      clear hFc hB hk1 hz1 hvm
      refine lv_if_ne (tgt := 62) hx hb dX5_showsOf_55 (by decide) (fun c4 => ?_) (fun c4 => ?_)
      · rw [if_neg c4] at h
        refine lv_iconst (v := (0 : Int32)) hx hb dX5_showsOf_62 (by decide) ?_
        refine lv_goto (tgt := 79) hx hb dX5_showsOf_63 (by decide) ?_
        have h0 := Option.some.inj h
        subst h0
        exact W.zret (ty := .boolean) hx hb hr bo_0 (fun t ht hW => ⟨⟨_, (), rfl, ⟨rfl, bo_0⟩, QW_mk hP hK hD ht hW⟩, hS.F ht⟩) hS.2.2 dX5_showsOf_79
      · rw [if_pos c4] at h
        refine lv_iconst (v := (1 : Int32)) hx hb dX5_showsOf_58 (by decide) ?_
        refine lv_goto (tgt := 79) hx hb dX5_showsOf_59 (by decide) ?_
        have h0 := Option.some.inj h
        subst h0
        exact W.zret (ty := .boolean) hx hb hr bo_1 (fun t ht hW => ⟨⟨_, (), rfl, ⟨rfl, bo_1⟩, QW_mk hP hK hD ht hW⟩, hS.F ht⟩) hS.2.2 dX5_showsOf_79
  · rw [if_pos c7] at h
    refine lv_aload_n hx hb dX5_showsOf_4 rfl (lv_at hl 0 rfl) ?_
    refine va_get (D := (dC, dI)) (ci := 5) (v := .ref axr) (C := RX5) (T := TX5) (N := 11) hx hb hts hin_X5 hown hK hP 0 rfl rfl 1 (by decide) (hf_13) (fun _ h9 => h9) rfl dX5_showsOf_5 ?_
    refine lv_iload_n hx hb dX5_showsOf_8 rfl (lv_at hl 2 rfl) ?_
    obtain ⟨hi, h⟩ := gin_some h
    refine va_iald hx hb hK hP 1 0 rfl rfl hi dX5_showsOf_9 ?_
    refine lv_aload_n hx hb dX5_showsOf_10 rfl (lv_at hl 0 rfl) ?_
    refine va_get (D := (dC, dI)) (ci := 5) (v := .ref axr) (C := RX5) (T := TX5) (N := 11) hx hb hts hin_X5 hown hK hP 0 rfl rfl 1 (by decide) (hf_13) (fun _ h9 => h9) rfl dX5_showsOf_11 ?_
    refine lv_iload_n hx hb dX5_showsOf_14 rfl (lv_at hl 3 rfl) ?_
    obtain ⟨hi, h⟩ := gin_some h
    refine va_iald hx hb hK hP 1 0 rfl rfl hi dX5_showsOf_15 ?_
    refine lv_icmp_le (tgt := 23) hx hb dX5_showsOf_16 (by decide) (fun c6 => ?_) (fun c6 => ?_)
    · rw [if_pos c6] at h
      refine lv_iconst (v := (0 : Int32)) hx hb dX5_showsOf_23 (by decide) ?_
      refine lv_goto (tgt := 79) hx hb dX5_showsOf_24 (by decide) ?_
      have h0 := Option.some.inj h
      subst h0
      exact W.zret (ty := .boolean) hx hb hr bo_0 (fun t ht hW => ⟨⟨_, (), rfl, ⟨rfl, bo_0⟩, QW_mk hP hK hD ht hW⟩, hS.F ht⟩) hS.2.2 dX5_showsOf_79
    · rw [if_neg c6] at h
      refine lv_iconst (v := (1 : Int32)) hx hb dX5_showsOf_19 (by decide) ?_
      refine lv_goto (tgt := 79) hx hb dX5_showsOf_20 (by decide) ?_
      have h0 := Option.some.inj h
      subst h0
      exact W.zret (ty := .boolean) hx hb hr bo_1 (fun t ht hW => ⟨⟨_, (), rfl, ⟨rfl, bo_1⟩, QW_mk hP hK hD ht hW⟩, hS.F ht⟩) hS.2.2 dX5_showsOf_79

noncomputable def fX5_shows (vxn : Int32) (vxk : Int32) (fxr : Nat → Int32) (fxb : Nat → Int32) (fxj : Nat → Int32) (p0 : Int32) (p1 : Int32) (p2 : Int32) : Option (Int32) := bd (fX5_maySubject vxn vxk p0 p1 p2) fun r1 => if r1 = 0 then (some (-2 : Int32)) else (bd (fX5_showsOf fxr fxb fxj p0 p1 p2) fun r2 => if r2 = 0 then (some (0 : Int32)) else (some (1 : Int32)))
set_option maxHeartbeats 4000000 in
set_option maxRecDepth 100000 in
theorem c_X5_shows (l : Launch) (dC : Nat → ClassId) (dI : Nat → Nat → Nat) (cy : ClassId) (ax axr axb axj axi axu : Nat) (sz : Nat) (vxn : Int32) (vxk : Int32) (vxA : Int64) (vxB : Int64) (vxC : Int64) (vxE : Int64) (fxr : Nat → Int32) (fxb : Nat → Int32) (fxj : Nat → Int32) (p0 : Int32) (p1 : Int32) (p2 : Int32) (res : Int32) (h : fX5_shows vxn vxk fxr fxb fxj p0 p1 p2 = some res) : Met l yX5_shows wsX5_shows ({ frames := 4, cells := 0, slots := 0, locals := 93 }) (va_Pc [.ref ax, .int p0, .int p1, .int p2] (PW (dC, dI) cy sz [(ax, .inr (5, [.int vxn, .ref axr, .ref axb, .ref axj, .int vxk, .ref axi, .ref axu, .long vxA, .long vxB, .long vxC, .long vxE])), (axr, .inl (cy, 8, .inl fxr)), (axb, .inl (cy, 8, .inl fxb)), (axj, .inl (cy, 6, .inl fxj))])) (va_Qi (fun (r : Int32) (_ : Unit) => r = res) (QW (dC, dI) cy (va_A [(ax, .inr (5, [.int vxn, .ref axr, .ref axb, .ref axj, .int vxk, .ref axi, .ref axu, .long vxA, .long vxB, .long vxC, .long vxE])), (axr, .inl (cy, 8, .inl fxr)), (axb, .inl (cy, 8, .inl fxb)), (axj, .inl (cy, 6, .inl fxj))] sz) [(ax, .inr (5, [.int vxn, .ref axr, .ref axb, .ref axj, .int vxk, .ref axi, .ref axu, .long vxA, .long vxB, .long vxC, .long vxE])), (axr, .inl (cy, 8, .inl fxr)), (axb, .inl (cy, 8, .inl fxb)), (axj, .inl (cy, 6, .inl fxj))]) (va_A [(ax, .inr (5, [.int vxn, .ref axr, .ref axb, .ref axj, .int vxk, .ref axi, .ref axu, .long vxA, .long vxB, .long vxC, .long vxE])), (axr, .inl (cy, 8, .inl fxr)), (axb, .inl (cy, 8, .inl fxb)), (axj, .inl (cy, 6, .inl fxj))] sz)) 0 0 (va_A [(ax, .inr (5, [.int vxn, .ref axr, .ref axb, .ref axj, .int vxk, .ref axi, .ref axu, .long vxA, .long vxB, .long vxC, .long vxE])), (axr, .inl (cy, 8, .inl fxr)), (axb, .inl (cy, 8, .inl fxb)), (axj, .inl (cy, 6, .inl fxj))] sz) := by
  refine Met.ofW (cc := cX5_shows) (maxL := 4) (ret := (some .int)) (by decide) rfl ?_
  intro p e s m args below meth c s₁ B hml hv
  obtain ⟨rfl, hsz, hP, hK, hD0, hN⟩ := hv
  have hx := B.exec
  have hb := B.bytes
  have hr := B.returns
  have hts := atoms_spec (ws := wsX5_shows) B.pre
  have hown : s.vm.findClass RX5 = some m.cls := findClass_of_methodNamed B.named
  have hlocks := B.notSynchronized
  subst hsz
  have hD := hD0.self (sz := s.heap.size)
  clear hD0
  generalize hAe : va_A [(ax, .inr (5, [.int vxn, .ref axr, .ref axb, .ref axj, .int vxk, .ref axi, .ref axu, .long vxA, .long vxB, .long vxC, .long vxE])), (axr, .inl (cy, 8, .inl fxr)), (axb, .inl (cy, 8, .inl fxb)), (axj, .inl (cy, 6, .inl fxj))] s.heap.size = A at hD ⊢
  have hA : ∀ q : Nat, s.heap.size ≤ q → A q := fun q h => by rw [← hAe]; exact Or.inr h
  have hS : va_S A s.heap s.heap [] := va_S.rf
  have hl := lv_entry ([.ref ax, .int p0, .int p1, .int p2]) (n := 4) (Nat.le_of_ble_eq_true rfl)
  rw [lg_entry_eq]
  generalize (lg_sl ([.ref ax, .int p0, .int p1, .int p2]) ++ List.replicate (4 - (lg_sl ([.ref ax, .int p0, .int p1, .int p2])).length) Slot.unset).toArray = ls at hl ⊢
  replace hl : lv_has ls 4 [(0, .ref ax), (1, .int p0), (2, .int p1), (3, .int p2)] := hl
  replace hP : va_P (dC, dI) vwCl [(ax, .inr (5, [.int vxn, .ref axr, .ref axb, .ref axj, .int vxk, .ref axi, .ref axu, .long vxA, .long vxB, .long vxC, .long vxE])), (axr, .inl (cy, 8, .inl fxr)), (axb, .inl (cy, 8, .inl fxb)), (axj, .inl (cy, 6, .inl fxj))] s.heap := hP
  obtain ⟨locs, hlocs⟩ : ∃ lc : List Loc, lc = [] := ⟨_, rfl⟩
  rw [← hlocs] at hS ⊢
  obtain ⟨H, hH⟩ : ∃ H : Heap, H = s.heap := ⟨_, rfl⟩
  have hP2 := hP; rw [← hH] at hP2
  have hS2 : va_S A s.heap H locs := by rw [hH]; exact hS
  suffices hgo : W p l e (headSpec wsX5_shows ({ frames := 4, cells := 0, slots := 0, locals := 93 })).room s m (([.ref ax, .int p0, .int p1, .int p2] : List Value).toArray) below meth c H locs 0 0 (MQ below (va_Qi (fun (r : Int32) (_ : Unit) => r = res) (QW (dC, dI) cy A [(ax, .inr (5, [.int vxn, .ref axr, .ref axb, .ref axj, .int vxk, .ref axi, .ref axu, .long vxA, .long vxB, .long vxC, .long vxE])), (axr, .inl (cy, 8, .inl fxr)), (axb, .inl (cy, 8, .inl fxb)), (axj, .inl (cy, 6, .inl fxj))]) A) (([.ref ax, .int p0, .int p1, .int p2] : List Value).toArray) s 0 0 A) (F0 m 0 ls []) by rw [hH] at hgo; exact hgo
  replace hP := hP2
  replace hS := hS2
  clear hP2 hS2
  unfold fX5_shows at h
  refine lv_aload_n hx hb dX5_shows_0 rfl (lv_at hl 0 rfl) ?_
  refine lv_iload_n hx hb dX5_shows_1 rfl (lv_at hl 1 rfl) ?_
  refine lv_iload_n hx hb dX5_shows_2 rfl (lv_at hl 2 rfl) ?_
  refine lv_iload_n hx hb dX5_shows_3 rfl (lv_at hl 3 rfl) ?_
  obtain ⟨r1, hr1, h⟩ := bd_some h
  have hFc := va_free (wc := [(ax, .inr (5, [.int vxn, .ref axr, .ref axb, .ref axj, .int vxk, .ref axi, .ref axu, .long vxA, .long vxB, .long vxC, .long vxE]))]) hD hS hA [0] rfl
  refine va_calli (va_runV (As := [.int p0, .int p1, .int p2]) (rest := []) ⟨hx, hb, hml, hown, hts⟩ (c_X5_maySubject l dC dI cy ax axr axb axj axi axu H.size vxn vxk vxA vxB vxC vxE p0 p1 p2 r1 hr1) (cwV 3 hts gX5_shows_X5_maySubject rfl rfl rfl (by decide +kernel) ⟨Nat.le_of_ble_eq_true rfl, Nat.le_of_ble_eq_true rfl⟩) ⟨PW_fb, va_recv hK hP (ci := 5) (q0 := 0) rfl rfl, PW_pre (hP.sub (ws' := [(ax, .inr (5, [.int vxn, .ref axr, .ref axb, .ref axj, .int vxk, .ref axi, .ref axu, .long vxA, .long vxB, .long vxC, .long vxE]))]) [0] rfl) hK (hD.sub [0] (by decide) rfl) hN⟩ rfl rfl hl.1 rfl (lv_room (Nat.le_of_ble_eq_true rfl)) dX5_shows_4 ⟨Nat.zero_le _, Nat.zero_le _⟩) hS (fun q _ h => hFc q h) hFc (fun rz u t H locs ht hvm hw hB hz1 hk1 hS => ?_)
  obtain ⟨hP, hD⟩ := jn (wr := [(axr, .inl (cy, 8, .inl fxr)), (axb, .inl (cy, 8, .inl fxb)), (axj, .inl (cy, 6, .inl fxj))]) (w1 := [(ax, .inr (5, [.int vxn, .ref axr, .ref axb, .ref axj, .int vxk, .ref axi, .ref axu, .long vxA, .long vxB, .long vxC, .long vxE]))]) (ws' := [(ax, .inr (5, [.int vxn, .ref axr, .ref axb, .ref axj, .int vxk, .ref axi, .ref axu, .long vxA, .long vxB, .long vxC, .long vxE])), (axr, .inl (cy, 8, .inl fxr)), (axb, .inl (cy, 8, .inl fxb)), (axj, .inl (cy, 6, .inl fxj))]) hP hD [0] [1, 2, 3] rfl rfl (by decide) (by decide) hk1 hFc hB ht [3, 0, 1, 2] rfl (by decide) rfl
  obtain ⟨hw, br1⟩ := hw
  replace hw := hw.symm
  subst hw
  clear hFc hB hk1 hz1 hvm
  refine lv_if_ne (tgt := 15) hx hb dX5_shows_7 (by decide) (fun c4 => ?_) (fun c4 => ?_)
  · rw [if_neg c4] at h
    refine lv_aload_n hx hb dX5_shows_15 rfl (lv_at hl 0 rfl) ?_
    refine lv_iload_n hx hb dX5_shows_16 rfl (lv_at hl 1 rfl) ?_
    refine lv_iload_n hx hb dX5_shows_17 rfl (lv_at hl 2 rfl) ?_
    refine lv_iload_n hx hb dX5_shows_18 rfl (lv_at hl 3 rfl) ?_
    obtain ⟨r2, hr2, h⟩ := bd_some h
    have hFc := va_free (wc := [(ax, .inr (5, [.int vxn, .ref axr, .ref axb, .ref axj, .int vxk, .ref axi, .ref axu, .long vxA, .long vxB, .long vxC, .long vxE])), (axr, .inl (cy, 8, .inl fxr)), (axb, .inl (cy, 8, .inl fxb)), (axj, .inl (cy, 6, .inl fxj))]) hD hS hA [0, 1, 2, 3] rfl
    refine va_calli (va_runV (As := [.int p0, .int p1, .int p2]) (rest := []) ⟨hx, hb, hml, hown, hts⟩ (c_X5_showsOf l dC dI cy ax axr axb axj axi axu H.size vxn vxk vxA vxB vxC vxE fxr fxb fxj p0 p1 p2 r2 hr2) (cwV 3 hts gX5_shows_X5_showsOf rfl rfl rfl (by decide +kernel) ⟨Nat.le_of_ble_eq_true rfl, Nat.le_of_ble_eq_true rfl⟩) ⟨PW_fb, va_recv hK hP (ci := 5) (q0 := 0) rfl rfl, PW_pre (hP.sub (ws' := [(ax, .inr (5, [.int vxn, .ref axr, .ref axb, .ref axj, .int vxk, .ref axi, .ref axu, .long vxA, .long vxB, .long vxC, .long vxE])), (axr, .inl (cy, 8, .inl fxr)), (axb, .inl (cy, 8, .inl fxb)), (axj, .inl (cy, 6, .inl fxj))]) [0, 1, 2, 3] rfl) hK (hD.sub [0, 1, 2, 3] (by decide) rfl) hN⟩ rfl rfl hl.1 rfl (lv_room (Nat.le_of_ble_eq_true rfl)) dX5_shows_19 ⟨Nat.zero_le _, Nat.zero_le _⟩) hS (fun q _ h => hFc q h) hFc (fun rz u t H locs ht hvm hw hB hz1 hk1 hS => ?_)
    obtain ⟨hP, hD⟩ := jn (wr := []) (w1 := [(ax, .inr (5, [.int vxn, .ref axr, .ref axb, .ref axj, .int vxk, .ref axi, .ref axu, .long vxA, .long vxB, .long vxC, .long vxE])), (axr, .inl (cy, 8, .inl fxr)), (axb, .inl (cy, 8, .inl fxb)), (axj, .inl (cy, 6, .inl fxj))]) (ws' := [(ax, .inr (5, [.int vxn, .ref axr, .ref axb, .ref axj, .int vxk, .ref axi, .ref axu, .long vxA, .long vxB, .long vxC, .long vxE])), (axr, .inl (cy, 8, .inl fxr)), (axb, .inl (cy, 8, .inl fxb)), (axj, .inl (cy, 6, .inl fxj))]) hP hD [0, 1, 2, 3] [] rfl rfl (by decide) (by decide) hk1 hFc hB ht [0, 1, 2, 3] rfl (by decide) rfl
    obtain ⟨hw, br2⟩ := hw
    replace hw := hw.symm
    subst hw
    clear hFc hB hk1 hz1 hvm
    refine lv_if_eq (tgt := 29) hx hb dX5_shows_22 (by decide) (fun c3 => ?_) (fun c3 => ?_)
    · rw [if_pos c3] at h
      refine lv_iconst (v := (0 : Int32)) hx hb dX5_shows_29 (by decide) ?_
      have h0 := Option.some.inj h
      subst h0
      exact W.iret hx hb hr (fun t ht hW => ⟨⟨_, (), rfl, rfl, QW_mk hP hK hD ht hW⟩, hS.F ht⟩) hS.2.2 dX5_shows_30
    · rw [if_neg c3] at h
      refine lv_iconst (v := (1 : Int32)) hx hb dX5_shows_25 (by decide) ?_
      refine lv_goto (tgt := 30) hx hb dX5_shows_26 (by decide) ?_
      have h0 := Option.some.inj h
      subst h0
      exact W.iret hx hb hr (fun t ht hW => ⟨⟨_, (), rfl, rfl, QW_mk hP hK hD ht hW⟩, hS.F ht⟩) hS.2.2 dX5_shows_30
  · rw [if_pos c4] at h
    refine lv_bipush (v := (-2 : Int32)) hx hb dX5_shows_10 (by decide) ?_
    refine lv_goto (tgt := 30) hx hb dX5_shows_12 (by decide) ?_
    have h0 := Option.some.inj h
    subst h0
    exact W.iret hx hb hr (fun t ht hW => ⟨⟨_, (), rfl, rfl, QW_mk hP hK hD ht hW⟩, hS.F ht⟩) hS.2.2 dX5_shows_30

noncomputable def fX5_witness_L27 (n : Nat) (l1 : Int32) (l2 : Int32) (l3 : Int32) (vxn : Int32) (vxk : Int32) (fxr : Nat → Int32) (fxb : Nat → Int32) (fxj : Nat → Int32) : Option ((Int32) ⊕ (Int32)) := match n with
  | 0 => none
  | n + 1 => if (8 : Int32) ≤ l3 then (some (.inr l3)) else (bd (fX5_maySubject vxn vxk l1 l2 l3) fun r1 => if r1 = 0 then (fX5_witness_L27 n l1 l2 (l3 + (1 : Int32)) vxn vxk fxr fxb fxj) else (bd (fX5_showsOf fxr fxb fxj l1 l2 l3) fun r2 => if r2 = 0 then (fX5_witness_L27 n l1 l2 (l3 + (1 : Int32)) vxn vxk fxr fxb fxj) else (if l1 = (5 : Int32) then (some (.inl l2)) else (some (.inl (((100 : Int32) * l2) + l3))))))
theorem fX5_witness_L27_0 (l1 : Int32) (l2 : Int32) (l3 : Int32) (vxn : Int32) (vxk : Int32) (fxr : Nat → Int32) (fxb : Nat → Int32) (fxj : Nat → Int32) : fX5_witness_L27 0 l1 l2 l3 vxn vxk fxr fxb fxj = none := rfl
theorem fX5_witness_L27_s (n : Nat) (l1 : Int32) (l2 : Int32) (l3 : Int32) (vxn : Int32) (vxk : Int32) (fxr : Nat → Int32) (fxb : Nat → Int32) (fxj : Nat → Int32) : fX5_witness_L27 (n + 1) l1 l2 l3 vxn vxk fxr fxb fxj = if (8 : Int32) ≤ l3 then (some (.inr l3)) else (bd (fX5_maySubject vxn vxk l1 l2 l3) fun r1 => if r1 = 0 then (fX5_witness_L27 n l1 l2 (l3 + (1 : Int32)) vxn vxk fxr fxb fxj) else (bd (fX5_showsOf fxr fxb fxj l1 l2 l3) fun r2 => if r2 = 0 then (fX5_witness_L27 n l1 l2 (l3 + (1 : Int32)) vxn vxk fxr fxb fxj) else (if l1 = (5 : Int32) then (some (.inl l2)) else (some (.inl (((100 : Int32) * l2) + l3)))))) := rfl
noncomputable def fX5_witness_L19 (n : Nat) (l1 : Int32) (l2 : Int32) (vxn : Int32) (vxk : Int32) (fxr : Nat → Int32) (fxb : Nat → Int32) (fxj : Nat → Int32) : Option ((Int32) ⊕ (Int32)) := match n with
  | 0 => none
  | n + 1 => if (64 : Int32) ≤ l2 then (some (.inr l2)) else (bt (fX5_witness_L27 FU l1 l2 (0 : Int32) vxn vxk fxr fxb fxj) fun q8 => fX5_witness_L19 n l1 (l2 + (1 : Int32)) vxn vxk fxr fxb fxj)
theorem fX5_witness_L19_0 (l1 : Int32) (l2 : Int32) (vxn : Int32) (vxk : Int32) (fxr : Nat → Int32) (fxb : Nat → Int32) (fxj : Nat → Int32) : fX5_witness_L19 0 l1 l2 vxn vxk fxr fxb fxj = none := rfl
theorem fX5_witness_L19_s (n : Nat) (l1 : Int32) (l2 : Int32) (vxn : Int32) (vxk : Int32) (fxr : Nat → Int32) (fxb : Nat → Int32) (fxj : Nat → Int32) : fX5_witness_L19 (n + 1) l1 l2 vxn vxk fxr fxb fxj = if (64 : Int32) ≤ l2 then (some (.inr l2)) else (bt (fX5_witness_L27 FU l1 l2 (0 : Int32) vxn vxk fxr fxb fxj) fun q8 => fX5_witness_L19 n l1 (l2 + (1 : Int32)) vxn vxk fxr fxb fxj) := rfl
noncomputable def fX5_witness (vxn : Int32) (vxk : Int32) (fxr : Nat → Int32) (fxb : Nat → Int32) (fxj : Nat → Int32) (p0 : Int32) : Option (Int32) := if p0 = 0 then (bs (fX5_witness_L19 FU p0 (0 : Int32) vxn vxk fxr fxb fxj) fun q11 => some (-1 : Int32)) else (if p0 = (4 : Int32) then (bs (fX5_witness_L19 FU p0 (0 : Int32) vxn vxk fxr fxb fxj) fun q22 => some (-1 : Int32)) else (if p0 = (5 : Int32) then (bs (fX5_witness_L19 FU p0 (0 : Int32) vxn vxk fxr fxb fxj) fun q33 => some (-1 : Int32)) else (some (-2 : Int32))))
set_option maxHeartbeats 4000000 in
set_option maxRecDepth 100000 in
theorem c_X5_witness (l : Launch) (dC : Nat → ClassId) (dI : Nat → Nat → Nat) (cy : ClassId) (ax axr axb axj axi axu : Nat) (sz : Nat) (vxn : Int32) (vxk : Int32) (vxA : Int64) (vxB : Int64) (vxC : Int64) (vxE : Int64) (fxr : Nat → Int32) (fxb : Nat → Int32) (fxj : Nat → Int32) (p0 : Int32) (res : Int32) (h : fX5_witness vxn vxk fxr fxb fxj p0 = some res) : Met l yX5_witness wsX5_witness ({ frames := 4, cells := 0, slots := 0, locals := 93 }) (va_Pc [.ref ax, .int p0] (PW (dC, dI) cy sz [(ax, .inr (5, [.int vxn, .ref axr, .ref axb, .ref axj, .int vxk, .ref axi, .ref axu, .long vxA, .long vxB, .long vxC, .long vxE])), (axr, .inl (cy, 8, .inl fxr)), (axb, .inl (cy, 8, .inl fxb)), (axj, .inl (cy, 6, .inl fxj))])) (va_Qi (fun (r : Int32) (_ : Unit) => r = res) (QW (dC, dI) cy (va_A [(ax, .inr (5, [.int vxn, .ref axr, .ref axb, .ref axj, .int vxk, .ref axi, .ref axu, .long vxA, .long vxB, .long vxC, .long vxE])), (axr, .inl (cy, 8, .inl fxr)), (axb, .inl (cy, 8, .inl fxb)), (axj, .inl (cy, 6, .inl fxj))] sz) [(ax, .inr (5, [.int vxn, .ref axr, .ref axb, .ref axj, .int vxk, .ref axi, .ref axu, .long vxA, .long vxB, .long vxC, .long vxE])), (axr, .inl (cy, 8, .inl fxr)), (axb, .inl (cy, 8, .inl fxb)), (axj, .inl (cy, 6, .inl fxj))]) (va_A [(ax, .inr (5, [.int vxn, .ref axr, .ref axb, .ref axj, .int vxk, .ref axi, .ref axu, .long vxA, .long vxB, .long vxC, .long vxE])), (axr, .inl (cy, 8, .inl fxr)), (axb, .inl (cy, 8, .inl fxb)), (axj, .inl (cy, 6, .inl fxj))] sz)) 0 0 (va_A [(ax, .inr (5, [.int vxn, .ref axr, .ref axb, .ref axj, .int vxk, .ref axi, .ref axu, .long vxA, .long vxB, .long vxC, .long vxE])), (axr, .inl (cy, 8, .inl fxr)), (axb, .inl (cy, 8, .inl fxb)), (axj, .inl (cy, 6, .inl fxj))] sz) := by
  refine Met.ofW (cc := cX5_witness) (maxL := 4) (ret := (some .int)) (by decide) rfl ?_
  intro p e s m args below meth c s₁ B hml hv
  obtain ⟨rfl, hsz, hP, hK, hD0, hN⟩ := hv
  have hx := B.exec
  have hb := B.bytes
  have hr := B.returns
  have hts := atoms_spec (ws := wsX5_witness) B.pre
  have hown : s.vm.findClass RX5 = some m.cls := findClass_of_methodNamed B.named
  have hlocks := B.notSynchronized
  subst hsz
  have hD := hD0.self (sz := s.heap.size)
  clear hD0
  generalize hAe : va_A [(ax, .inr (5, [.int vxn, .ref axr, .ref axb, .ref axj, .int vxk, .ref axi, .ref axu, .long vxA, .long vxB, .long vxC, .long vxE])), (axr, .inl (cy, 8, .inl fxr)), (axb, .inl (cy, 8, .inl fxb)), (axj, .inl (cy, 6, .inl fxj))] s.heap.size = A at hD ⊢
  have hA : ∀ q : Nat, s.heap.size ≤ q → A q := fun q h => by rw [← hAe]; exact Or.inr h
  have hS : va_S A s.heap s.heap [] := va_S.rf
  have hl := lv_entry ([.ref ax, .int p0]) (n := 4) (Nat.le_of_ble_eq_true rfl)
  rw [lg_entry_eq]
  generalize (lg_sl ([.ref ax, .int p0]) ++ List.replicate (4 - (lg_sl ([.ref ax, .int p0])).length) Slot.unset).toArray = ls at hl ⊢
  replace hl : lv_has ls 4 [(0, .ref ax), (1, .int p0)] := hl
  replace hP : va_P (dC, dI) vwCl [(ax, .inr (5, [.int vxn, .ref axr, .ref axb, .ref axj, .int vxk, .ref axi, .ref axu, .long vxA, .long vxB, .long vxC, .long vxE])), (axr, .inl (cy, 8, .inl fxr)), (axb, .inl (cy, 8, .inl fxb)), (axj, .inl (cy, 6, .inl fxj))] s.heap := hP
  obtain ⟨locs, hlocs⟩ : ∃ lc : List Loc, lc = [] := ⟨_, rfl⟩
  rw [← hlocs] at hS ⊢
  obtain ⟨H, hH⟩ : ∃ H : Heap, H = s.heap := ⟨_, rfl⟩
  have hP2 := hP; rw [← hH] at hP2
  have hS2 : va_S A s.heap H locs := by rw [hH]; exact hS
  suffices hgo : W p l e (headSpec wsX5_witness ({ frames := 4, cells := 0, slots := 0, locals := 93 })).room s m (([.ref ax, .int p0] : List Value).toArray) below meth c H locs 0 0 (MQ below (va_Qi (fun (r : Int32) (_ : Unit) => r = res) (QW (dC, dI) cy A [(ax, .inr (5, [.int vxn, .ref axr, .ref axb, .ref axj, .int vxk, .ref axi, .ref axu, .long vxA, .long vxB, .long vxC, .long vxE])), (axr, .inl (cy, 8, .inl fxr)), (axb, .inl (cy, 8, .inl fxb)), (axj, .inl (cy, 6, .inl fxj))]) A) (([.ref ax, .int p0] : List Value).toArray) s 0 0 A) (F0 m 0 ls []) by rw [hH] at hgo; exact hgo
  replace hP := hP2
  replace hS := hS2
  clear hP2 hS2
  unfold fX5_witness at h
  refine lv_iload_n hx hb dX5_witness_0 rfl (lv_at hl 1 rfl) ?_
  refine lv_if_eq (tgt := 17) hx hb dX5_witness_1 (by decide) (fun c36 => ?_) (fun c36 => ?_)
  · rw [if_pos c36] at h
    refine lv_iconst (v := (0 : Int32)) hx hb dX5_witness_17 (by decide) ?_
    refine lv_istore_n (lv' := [(2, .int (0 : Int32)), (0, .ref ax), (1, .int p0)]) hx hb dX5_witness_18 rfl hl (by decide) rfl (fun ls hl => ?_)
    have L19_9 : ∀ (n : Nat) (l1 : Int32) (l2 : Int32) (rs : ((Int32) ⊕ (Int32))) (H : Heap) (locs : List Loc) (ls : Array Slot), fX5_witness_L19 n l1 l2 vxn vxk fxr fxb fxj = some rs → lv_has ls 4 [(0, .ref ax), (1, .int l1), (2, .int l2)] → va_P (dC, dI) vwCl [(ax, .inr (5, [.int vxn, .ref axr, .ref axb, .ref axj, .int vxk, .ref axi, .ref axu, .long vxA, .long vxB, .long vxC, .long vxE])), (axr, .inl (cy, 8, .inl fxr)), (axb, .inl (cy, 8, .inl fxb)), (axj, .inl (cy, 6, .inl fxj))] H → va_D A [(ax, .inr (5, [.int vxn, .ref axr, .ref axb, .ref axj, .int vxk, .ref axi, .ref axu, .long vxA, .long vxB, .long vxC, .long vxE])), (axr, .inl (cy, 8, .inl fxr)), (axb, .inl (cy, 8, .inl fxb)), (axj, .inl (cy, 6, .inl fxj))] → va_S A s.heap H locs → (∀ q, rs = .inl q → q = res) → (∀ q, rs = .inr q → (∀ (H : Heap) (locs : List Loc) (ls : Array Slot), lv_has ls 4 [(0, .ref ax), (1, .int l1), (2, .int q)] → va_P (dC, dI) vwCl [(ax, .inr (5, [.int vxn, .ref axr, .ref axb, .ref axj, .int vxk, .ref axi, .ref axu, .long vxA, .long vxB, .long vxC, .long vxE])), (axr, .inl (cy, 8, .inl fxr)), (axb, .inl (cy, 8, .inl fxb)), (axj, .inl (cy, 6, .inl fxj))] H → va_D A [(ax, .inr (5, [.int vxn, .ref axr, .ref axb, .ref axj, .int vxk, .ref axi, .ref axu, .long vxA, .long vxB, .long vxC, .long vxE])), (axr, .inl (cy, 8, .inl fxr)), (axb, .inl (cy, 8, .inl fxb)), (axj, .inl (cy, 6, .inl fxj))] → va_S A s.heap H locs → W p l e (headSpec wsX5_witness ({ frames := 4, cells := 0, slots := 0, locals := 93 })).room s m (([.ref ax, .int p0] : List Value).toArray) below meth c H locs 0 0 (MQ below (va_Qi (fun (r : Int32) (_ : Unit) => r = res) (QW (dC, dI) cy A [(ax, .inr (5, [.int vxn, .ref axr, .ref axb, .ref axj, .int vxk, .ref axi, .ref axu, .long vxA, .long vxB, .long vxC, .long vxE])), (axr, .inl (cy, 8, .inl fxr)), (axb, .inl (cy, 8, .inl fxb)), (axj, .inl (cy, 6, .inl fxj))]) A) (([.ref ax, .int p0] : List Value).toArray) s 0 0 A) (F0 m 81 ls []))) → W p l e (headSpec wsX5_witness ({ frames := 4, cells := 0, slots := 0, locals := 93 })).room s m (([.ref ax, .int p0] : List Value).toArray) below meth c H locs 0 0 (MQ below (va_Qi (fun (r : Int32) (_ : Unit) => r = res) (QW (dC, dI) cy A [(ax, .inr (5, [.int vxn, .ref axr, .ref axb, .ref axj, .int vxk, .ref axi, .ref axu, .long vxA, .long vxB, .long vxC, .long vxE])), (axr, .inl (cy, 8, .inl fxr)), (axb, .inl (cy, 8, .inl fxb)), (axj, .inl (cy, 6, .inl fxj))]) A) (([.ref ax, .int p0] : List Value).toArray) s 0 0 A) (F0 m 19 ls []) := by
      intro n
      induction n with
      | zero =>
        intro l1 l2 rs H locs ls h
        rw [fX5_witness_L19_0] at h
        cases h
      | succ n ih =>
        intro l1 l2 rs H locs ls h hl hP hD hS kr kx
        rw [fX5_witness_L19_s] at h
        refine lv_iload_n hx hb dX5_witness_19 rfl (lv_at hl 2 rfl) ?_
        refine lv_bipush (v := (64 : Int32)) hx hb dX5_witness_20 (by decide) ?_
        refine lv_icmp_ge (tgt := 81) hx hb dX5_witness_22 (by decide) (fun c9 => ?_) (fun c9 => ?_)
        · rw [if_pos c9] at h
          have h0 := Option.some.inj h
          subst h0
          exact kx _ rfl H locs ls (lv_sub hl [0, 1, 2] rfl) hP hD hS
        · rw [if_neg c9] at h
          refine lv_iconst (v := (0 : Int32)) hx hb dX5_witness_25 (by decide) ?_
          refine lv_istore_n (lv' := [(3, .int (0 : Int32)), (0, .ref ax), (1, .int l1), (2, .int l2)]) hx hb dX5_witness_26 rfl hl (by decide) rfl (fun ls hl => ?_)
          have L27_6 : ∀ (n : Nat) (l1 : Int32) (l2 : Int32) (l3 : Int32) (rs : ((Int32) ⊕ (Int32))) (H : Heap) (locs : List Loc) (ls : Array Slot), fX5_witness_L27 n l1 l2 l3 vxn vxk fxr fxb fxj = some rs → lv_has ls 4 [(0, .ref ax), (1, .int l1), (2, .int l2), (3, .int l3)] → va_P (dC, dI) vwCl [(ax, .inr (5, [.int vxn, .ref axr, .ref axb, .ref axj, .int vxk, .ref axi, .ref axu, .long vxA, .long vxB, .long vxC, .long vxE])), (axr, .inl (cy, 8, .inl fxr)), (axb, .inl (cy, 8, .inl fxb)), (axj, .inl (cy, 6, .inl fxj))] H → va_D A [(ax, .inr (5, [.int vxn, .ref axr, .ref axb, .ref axj, .int vxk, .ref axi, .ref axu, .long vxA, .long vxB, .long vxC, .long vxE])), (axr, .inl (cy, 8, .inl fxr)), (axb, .inl (cy, 8, .inl fxb)), (axj, .inl (cy, 6, .inl fxj))] → va_S A s.heap H locs → (∀ q, rs = .inl q → q = res) → (∀ q, rs = .inr q → (∀ (H : Heap) (locs : List Loc) (ls : Array Slot), lv_has ls 4 [(0, .ref ax), (1, .int l1), (2, .int l2), (3, .int q)] → va_P (dC, dI) vwCl [(ax, .inr (5, [.int vxn, .ref axr, .ref axb, .ref axj, .int vxk, .ref axi, .ref axu, .long vxA, .long vxB, .long vxC, .long vxE])), (axr, .inl (cy, 8, .inl fxr)), (axb, .inl (cy, 8, .inl fxb)), (axj, .inl (cy, 6, .inl fxj))] H → va_D A [(ax, .inr (5, [.int vxn, .ref axr, .ref axb, .ref axj, .int vxk, .ref axi, .ref axu, .long vxA, .long vxB, .long vxC, .long vxE])), (axr, .inl (cy, 8, .inl fxr)), (axb, .inl (cy, 8, .inl fxb)), (axj, .inl (cy, 6, .inl fxj))] → va_S A s.heap H locs → W p l e (headSpec wsX5_witness ({ frames := 4, cells := 0, slots := 0, locals := 93 })).room s m (([.ref ax, .int p0] : List Value).toArray) below meth c H locs 0 0 (MQ below (va_Qi (fun (r : Int32) (_ : Unit) => r = res) (QW (dC, dI) cy A [(ax, .inr (5, [.int vxn, .ref axr, .ref axb, .ref axj, .int vxk, .ref axi, .ref axu, .long vxA, .long vxB, .long vxC, .long vxE])), (axr, .inl (cy, 8, .inl fxr)), (axb, .inl (cy, 8, .inl fxb)), (axj, .inl (cy, 6, .inl fxj))]) A) (([.ref ax, .int p0] : List Value).toArray) s 0 0 A) (F0 m 75 ls []))) → W p l e (headSpec wsX5_witness ({ frames := 4, cells := 0, slots := 0, locals := 93 })).room s m (([.ref ax, .int p0] : List Value).toArray) below meth c H locs 0 0 (MQ below (va_Qi (fun (r : Int32) (_ : Unit) => r = res) (QW (dC, dI) cy A [(ax, .inr (5, [.int vxn, .ref axr, .ref axb, .ref axj, .int vxk, .ref axi, .ref axu, .long vxA, .long vxB, .long vxC, .long vxE])), (axr, .inl (cy, 8, .inl fxr)), (axb, .inl (cy, 8, .inl fxb)), (axj, .inl (cy, 6, .inl fxj))]) A) (([.ref ax, .int p0] : List Value).toArray) s 0 0 A) (F0 m 27 ls []) := by
            intro n
            induction n with
            | zero =>
              intro l1 l2 l3 rs H locs ls h
              rw [fX5_witness_L27_0] at h
              cases h
            | succ n ih =>
              intro l1 l2 l3 rs H locs ls h hl hP hD hS kr kx
              rw [fX5_witness_L27_s] at h
              refine lv_iload_n hx hb dX5_witness_27 rfl (lv_at hl 3 rfl) ?_
              refine lv_bipush (v := (8 : Int32)) hx hb dX5_witness_28 (by decide) ?_
              refine lv_icmp_ge (tgt := 75) hx hb dX5_witness_30 (by decide) (fun c6 => ?_) (fun c6 => ?_)
              · rw [if_pos c6] at h
                have h0 := Option.some.inj h
                subst h0
                exact kx _ rfl H locs ls (lv_sub hl [0, 1, 2, 3] rfl) hP hD hS
              · rw [if_neg c6] at h
                refine lv_aload_n hx hb dX5_witness_33 rfl (lv_at hl 0 rfl) ?_
                refine lv_iload_n hx hb dX5_witness_34 rfl (lv_at hl 1 rfl) ?_
                refine lv_iload_n hx hb dX5_witness_35 rfl (lv_at hl 2 rfl) ?_
                refine lv_iload_n hx hb dX5_witness_36 rfl (lv_at hl 3 rfl) ?_
                obtain ⟨r1, hr1, h⟩ := bd_some h
                have hFc := va_free (wc := [(ax, .inr (5, [.int vxn, .ref axr, .ref axb, .ref axj, .int vxk, .ref axi, .ref axu, .long vxA, .long vxB, .long vxC, .long vxE]))]) hD hS hA [0] rfl
                refine va_calli (va_runV (As := [.int l1, .int l2, .int l3]) (rest := []) ⟨hx, hb, hml, hown, hts⟩ (c_X5_maySubject l dC dI cy ax axr axb axj axi axu H.size vxn vxk vxA vxB vxC vxE l1 l2 l3 r1 hr1) (cwV 3 hts gX5_witness_X5_maySubject rfl rfl rfl (by decide +kernel) ⟨Nat.le_of_ble_eq_true rfl, Nat.le_of_ble_eq_true rfl⟩) ⟨PW_fb, va_recv hK hP (ci := 5) (q0 := 0) rfl rfl, PW_pre (hP.sub (ws' := [(ax, .inr (5, [.int vxn, .ref axr, .ref axb, .ref axj, .int vxk, .ref axi, .ref axu, .long vxA, .long vxB, .long vxC, .long vxE]))]) [0] rfl) hK (hD.sub [0] (by decide) rfl) hN⟩ rfl rfl hl.1 rfl (lv_room (Nat.le_of_ble_eq_true rfl)) dX5_witness_37 ⟨Nat.zero_le _, Nat.zero_le _⟩) hS (fun q _ h => hFc q h) hFc (fun rz u t H locs ht hvm hw hB hz1 hk1 hS => ?_)
                obtain ⟨hP, hD⟩ := jn (wr := [(axr, .inl (cy, 8, .inl fxr)), (axb, .inl (cy, 8, .inl fxb)), (axj, .inl (cy, 6, .inl fxj))]) (w1 := [(ax, .inr (5, [.int vxn, .ref axr, .ref axb, .ref axj, .int vxk, .ref axi, .ref axu, .long vxA, .long vxB, .long vxC, .long vxE]))]) (ws' := [(ax, .inr (5, [.int vxn, .ref axr, .ref axb, .ref axj, .int vxk, .ref axi, .ref axu, .long vxA, .long vxB, .long vxC, .long vxE])), (axr, .inl (cy, 8, .inl fxr)), (axb, .inl (cy, 8, .inl fxb)), (axj, .inl (cy, 6, .inl fxj))]) hP hD [0] [1, 2, 3] rfl rfl (by decide) (by decide) hk1 hFc hB ht [3, 0, 1, 2] rfl (by decide) rfl
                obtain ⟨hw, br1⟩ := hw
                replace hw := hw.symm
                subst hw
                clear hFc hB hk1 hz1 hvm
                refine lv_if_eq (tgt := 69) hx hb dX5_witness_40 (by decide) (fun c5 => ?_) (fun c5 => ?_)
                · rw [if_pos c5] at h
                  refine lv_iinc (v := l3 + (1 : Int32)) (lv' := [(3, .int (l3 + (1 : Int32))), (0, .ref ax), (1, .int l1), (2, .int l2)]) hx hb dX5_witness_69 hl (k := 3) rfl rfl (by decide) rfl (fun ls hl => ?_)
                  refine lv_goto (tgt := 27) hx hb dX5_witness_72 (by decide) ?_
                  exact ih l1 l2 (l3 + (1 : Int32)) rs H locs ls h (lv_sub hl [1, 2, 3, 0] rfl) hP hD hS kr kx
                · rw [if_neg c5] at h
                  refine lv_aload_n hx hb dX5_witness_43 rfl (lv_at hl 0 rfl) ?_
                  refine lv_iload_n hx hb dX5_witness_44 rfl (lv_at hl 1 rfl) ?_
                  refine lv_iload_n hx hb dX5_witness_45 rfl (lv_at hl 2 rfl) ?_
                  refine lv_iload_n hx hb dX5_witness_46 rfl (lv_at hl 3 rfl) ?_
                  obtain ⟨r2, hr2, h⟩ := bd_some h
                  have hFc := va_free (wc := [(ax, .inr (5, [.int vxn, .ref axr, .ref axb, .ref axj, .int vxk, .ref axi, .ref axu, .long vxA, .long vxB, .long vxC, .long vxE])), (axr, .inl (cy, 8, .inl fxr)), (axb, .inl (cy, 8, .inl fxb)), (axj, .inl (cy, 6, .inl fxj))]) hD hS hA [0, 1, 2, 3] rfl
                  refine va_calli (va_runV (As := [.int l1, .int l2, .int l3]) (rest := []) ⟨hx, hb, hml, hown, hts⟩ (c_X5_showsOf l dC dI cy ax axr axb axj axi axu H.size vxn vxk vxA vxB vxC vxE fxr fxb fxj l1 l2 l3 r2 hr2) (cwV 3 hts gX5_witness_X5_showsOf rfl rfl rfl (by decide +kernel) ⟨Nat.le_of_ble_eq_true rfl, Nat.le_of_ble_eq_true rfl⟩) ⟨PW_fb, va_recv hK hP (ci := 5) (q0 := 0) rfl rfl, PW_pre (hP.sub (ws' := [(ax, .inr (5, [.int vxn, .ref axr, .ref axb, .ref axj, .int vxk, .ref axi, .ref axu, .long vxA, .long vxB, .long vxC, .long vxE])), (axr, .inl (cy, 8, .inl fxr)), (axb, .inl (cy, 8, .inl fxb)), (axj, .inl (cy, 6, .inl fxj))]) [0, 1, 2, 3] rfl) hK (hD.sub [0, 1, 2, 3] (by decide) rfl) hN⟩ rfl rfl hl.1 rfl (lv_room (Nat.le_of_ble_eq_true rfl)) dX5_witness_47 ⟨Nat.zero_le _, Nat.zero_le _⟩) hS (fun q _ h => hFc q h) hFc (fun rz u t H locs ht hvm hw hB hz1 hk1 hS => ?_)
                  obtain ⟨hP, hD⟩ := jn (wr := []) (w1 := [(ax, .inr (5, [.int vxn, .ref axr, .ref axb, .ref axj, .int vxk, .ref axi, .ref axu, .long vxA, .long vxB, .long vxC, .long vxE])), (axr, .inl (cy, 8, .inl fxr)), (axb, .inl (cy, 8, .inl fxb)), (axj, .inl (cy, 6, .inl fxj))]) (ws' := [(ax, .inr (5, [.int vxn, .ref axr, .ref axb, .ref axj, .int vxk, .ref axi, .ref axu, .long vxA, .long vxB, .long vxC, .long vxE])), (axr, .inl (cy, 8, .inl fxr)), (axb, .inl (cy, 8, .inl fxb)), (axj, .inl (cy, 6, .inl fxj))]) hP hD [0, 1, 2, 3] [] rfl rfl (by decide) (by decide) hk1 hFc hB ht [0, 1, 2, 3] rfl (by decide) rfl
                  obtain ⟨hw, br2⟩ := hw
                  replace hw := hw.symm
                  subst hw
                  clear hFc hB hk1 hz1 hvm
                  refine lv_if_eq (tgt := 69) hx hb dX5_witness_50 (by decide) (fun c4 => ?_) (fun c4 => ?_)
                  · rw [if_pos c4] at h
                    refine lv_iinc (v := l3 + (1 : Int32)) (lv' := [(3, .int (l3 + (1 : Int32))), (0, .ref ax), (1, .int l1), (2, .int l2)]) hx hb dX5_witness_69 hl (k := 3) rfl rfl (by decide) rfl (fun ls hl => ?_)
                    refine lv_goto (tgt := 27) hx hb dX5_witness_72 (by decide) ?_
                    exact ih l1 l2 (l3 + (1 : Int32)) rs H locs ls h (lv_sub hl [1, 2, 3, 0] rfl) hP hD hS kr kx
                  · rw [if_neg c4] at h
                    refine lv_iload_n hx hb dX5_witness_53 rfl (lv_at hl 1 rfl) ?_
                    refine lv_iconst (v := (5 : Int32)) hx hb dX5_witness_54 (by decide) ?_
                    refine lv_icmp_ne (tgt := 62) hx hb dX5_witness_55 (by decide) (fun c3 => ?_) (fun c3 => ?_)
                    · rw [if_neg c3] at h
                      refine lv_bipush (v := (100 : Int32)) hx hb dX5_witness_62 (by decide) ?_
                      refine lv_iload_n hx hb dX5_witness_64 rfl (lv_at hl 2 rfl) ?_
                      refine lv_imul hx hb dX5_witness_65 ?_
                      refine lv_iload_n hx hb dX5_witness_66 rfl (lv_at hl 3 rfl) ?_
                      refine lv_iadd hx hb dX5_witness_67 ?_
                      have h0 := Option.some.inj h
                      subst h0
                      have hk := kr _ rfl
                      subst hk
                      exact W.iret hx hb hr (fun t ht hW => ⟨⟨_, (), rfl, rfl, QW_mk hP hK hD ht hW⟩, hS.F ht⟩) hS.2.2 dX5_witness_68
                    · rw [if_pos c3] at h
                      refine lv_iload_n hx hb dX5_witness_58 rfl (lv_at hl 2 rfl) ?_
                      refine lv_goto (tgt := 68) hx hb dX5_witness_59 (by decide) ?_
                      have h0 := Option.some.inj h
                      subst h0
                      have hk := kr _ rfl
                      subst hk
                      exact W.iret hx hb hr (fun t ht hW => ⟨⟨_, (), rfl, rfl, QW_mk hP hK hD ht hW⟩, hS.F ht⟩) hS.2.2 dX5_witness_68
          obtain ⟨rq8, hq8, kq8, xq8⟩ := bt_some h
          refine L27_6 FU l1 l2 (0 : Int32) rq8 H locs ls hq8 (lv_sub hl [1, 2, 3, 0] rfl) hP hD hS (fun z ez => kr z (kq8 z ez)) (fun q8 eq8 H locs ls hl hP hD hS => ?_)
          replace h := xq8 q8 eq8
          refine lv_iinc (v := l2 + (1 : Int32)) (lv' := [(2, .int (l2 + (1 : Int32))), (0, .ref ax), (1, .int l1), (3, .int q8)]) hx hb dX5_witness_75 hl (k := 2) rfl rfl (by decide) rfl (fun ls hl => ?_)
          refine lv_goto (tgt := 19) hx hb dX5_witness_78 (by decide) ?_
          exact ih l1 (l2 + (1 : Int32)) rs H locs ls h (lv_sub hl [1, 2, 0] rfl) hP hD hS kr kx
    obtain ⟨rq11, hq11, kq11, xq11⟩ := bs_some h
    refine L19_9 FU p0 (0 : Int32) rq11 H locs ls hq11 (lv_sub hl [1, 2, 0] rfl) hP hD hS kq11 (fun q11 eq11 H locs ls hl hP hD hS => ?_)
    replace h := xq11 q11 eq11
    refine lv_iconst (v := (-1 : Int32)) hx hb dX5_witness_81 (by decide) ?_
    have h0 := Option.some.inj h
    subst h0
    exact W.iret hx hb hr (fun t ht hW => ⟨⟨_, (), rfl, rfl, QW_mk hP hK hD ht hW⟩, hS.F ht⟩) hS.2.2 dX5_witness_82
  · rw [if_neg c36] at h
    refine lv_iload_n hx hb dX5_witness_4 rfl (lv_at hl 1 rfl) ?_
    refine lv_iconst (v := (4 : Int32)) hx hb dX5_witness_5 (by decide) ?_
    refine lv_icmp_eq (tgt := 17) hx hb dX5_witness_6 (by decide) (fun c35 => ?_) (fun c35 => ?_)
    · rw [if_pos c35] at h
      refine lv_iconst (v := (0 : Int32)) hx hb dX5_witness_17 (by decide) ?_
      refine lv_istore_n (lv' := [(2, .int (0 : Int32)), (0, .ref ax), (1, .int p0)]) hx hb dX5_witness_18 rfl hl (by decide) rfl (fun ls hl => ?_)
      have L19_20 : ∀ (n : Nat) (l1 : Int32) (l2 : Int32) (rs : ((Int32) ⊕ (Int32))) (H : Heap) (locs : List Loc) (ls : Array Slot), fX5_witness_L19 n l1 l2 vxn vxk fxr fxb fxj = some rs → lv_has ls 4 [(0, .ref ax), (1, .int l1), (2, .int l2)] → va_P (dC, dI) vwCl [(ax, .inr (5, [.int vxn, .ref axr, .ref axb, .ref axj, .int vxk, .ref axi, .ref axu, .long vxA, .long vxB, .long vxC, .long vxE])), (axr, .inl (cy, 8, .inl fxr)), (axb, .inl (cy, 8, .inl fxb)), (axj, .inl (cy, 6, .inl fxj))] H → va_D A [(ax, .inr (5, [.int vxn, .ref axr, .ref axb, .ref axj, .int vxk, .ref axi, .ref axu, .long vxA, .long vxB, .long vxC, .long vxE])), (axr, .inl (cy, 8, .inl fxr)), (axb, .inl (cy, 8, .inl fxb)), (axj, .inl (cy, 6, .inl fxj))] → va_S A s.heap H locs → (∀ q, rs = .inl q → q = res) → (∀ q, rs = .inr q → (∀ (H : Heap) (locs : List Loc) (ls : Array Slot), lv_has ls 4 [(0, .ref ax), (1, .int l1), (2, .int q)] → va_P (dC, dI) vwCl [(ax, .inr (5, [.int vxn, .ref axr, .ref axb, .ref axj, .int vxk, .ref axi, .ref axu, .long vxA, .long vxB, .long vxC, .long vxE])), (axr, .inl (cy, 8, .inl fxr)), (axb, .inl (cy, 8, .inl fxb)), (axj, .inl (cy, 6, .inl fxj))] H → va_D A [(ax, .inr (5, [.int vxn, .ref axr, .ref axb, .ref axj, .int vxk, .ref axi, .ref axu, .long vxA, .long vxB, .long vxC, .long vxE])), (axr, .inl (cy, 8, .inl fxr)), (axb, .inl (cy, 8, .inl fxb)), (axj, .inl (cy, 6, .inl fxj))] → va_S A s.heap H locs → W p l e (headSpec wsX5_witness ({ frames := 4, cells := 0, slots := 0, locals := 93 })).room s m (([.ref ax, .int p0] : List Value).toArray) below meth c H locs 0 0 (MQ below (va_Qi (fun (r : Int32) (_ : Unit) => r = res) (QW (dC, dI) cy A [(ax, .inr (5, [.int vxn, .ref axr, .ref axb, .ref axj, .int vxk, .ref axi, .ref axu, .long vxA, .long vxB, .long vxC, .long vxE])), (axr, .inl (cy, 8, .inl fxr)), (axb, .inl (cy, 8, .inl fxb)), (axj, .inl (cy, 6, .inl fxj))]) A) (([.ref ax, .int p0] : List Value).toArray) s 0 0 A) (F0 m 81 ls []))) → W p l e (headSpec wsX5_witness ({ frames := 4, cells := 0, slots := 0, locals := 93 })).room s m (([.ref ax, .int p0] : List Value).toArray) below meth c H locs 0 0 (MQ below (va_Qi (fun (r : Int32) (_ : Unit) => r = res) (QW (dC, dI) cy A [(ax, .inr (5, [.int vxn, .ref axr, .ref axb, .ref axj, .int vxk, .ref axi, .ref axu, .long vxA, .long vxB, .long vxC, .long vxE])), (axr, .inl (cy, 8, .inl fxr)), (axb, .inl (cy, 8, .inl fxb)), (axj, .inl (cy, 6, .inl fxj))]) A) (([.ref ax, .int p0] : List Value).toArray) s 0 0 A) (F0 m 19 ls []) := by
        intro n
        induction n with
        | zero =>
          intro l1 l2 rs H locs ls h
          rw [fX5_witness_L19_0] at h
          cases h
        | succ n ih =>
          intro l1 l2 rs H locs ls h hl hP hD hS kr kx
          rw [fX5_witness_L19_s] at h
          refine lv_iload_n hx hb dX5_witness_19 rfl (lv_at hl 2 rfl) ?_
          refine lv_bipush (v := (64 : Int32)) hx hb dX5_witness_20 (by decide) ?_
          refine lv_icmp_ge (tgt := 81) hx hb dX5_witness_22 (by decide) (fun c20 => ?_) (fun c20 => ?_)
          · rw [if_pos c20] at h
            have h0 := Option.some.inj h
            subst h0
            exact kx _ rfl H locs ls (lv_sub hl [0, 1, 2] rfl) hP hD hS
          · rw [if_neg c20] at h
            refine lv_iconst (v := (0 : Int32)) hx hb dX5_witness_25 (by decide) ?_
            refine lv_istore_n (lv' := [(3, .int (0 : Int32)), (0, .ref ax), (1, .int l1), (2, .int l2)]) hx hb dX5_witness_26 rfl hl (by decide) rfl (fun ls hl => ?_)
            have L27_17 : ∀ (n : Nat) (l1 : Int32) (l2 : Int32) (l3 : Int32) (rs : ((Int32) ⊕ (Int32))) (H : Heap) (locs : List Loc) (ls : Array Slot), fX5_witness_L27 n l1 l2 l3 vxn vxk fxr fxb fxj = some rs → lv_has ls 4 [(0, .ref ax), (1, .int l1), (2, .int l2), (3, .int l3)] → va_P (dC, dI) vwCl [(ax, .inr (5, [.int vxn, .ref axr, .ref axb, .ref axj, .int vxk, .ref axi, .ref axu, .long vxA, .long vxB, .long vxC, .long vxE])), (axr, .inl (cy, 8, .inl fxr)), (axb, .inl (cy, 8, .inl fxb)), (axj, .inl (cy, 6, .inl fxj))] H → va_D A [(ax, .inr (5, [.int vxn, .ref axr, .ref axb, .ref axj, .int vxk, .ref axi, .ref axu, .long vxA, .long vxB, .long vxC, .long vxE])), (axr, .inl (cy, 8, .inl fxr)), (axb, .inl (cy, 8, .inl fxb)), (axj, .inl (cy, 6, .inl fxj))] → va_S A s.heap H locs → (∀ q, rs = .inl q → q = res) → (∀ q, rs = .inr q → (∀ (H : Heap) (locs : List Loc) (ls : Array Slot), lv_has ls 4 [(0, .ref ax), (1, .int l1), (2, .int l2), (3, .int q)] → va_P (dC, dI) vwCl [(ax, .inr (5, [.int vxn, .ref axr, .ref axb, .ref axj, .int vxk, .ref axi, .ref axu, .long vxA, .long vxB, .long vxC, .long vxE])), (axr, .inl (cy, 8, .inl fxr)), (axb, .inl (cy, 8, .inl fxb)), (axj, .inl (cy, 6, .inl fxj))] H → va_D A [(ax, .inr (5, [.int vxn, .ref axr, .ref axb, .ref axj, .int vxk, .ref axi, .ref axu, .long vxA, .long vxB, .long vxC, .long vxE])), (axr, .inl (cy, 8, .inl fxr)), (axb, .inl (cy, 8, .inl fxb)), (axj, .inl (cy, 6, .inl fxj))] → va_S A s.heap H locs → W p l e (headSpec wsX5_witness ({ frames := 4, cells := 0, slots := 0, locals := 93 })).room s m (([.ref ax, .int p0] : List Value).toArray) below meth c H locs 0 0 (MQ below (va_Qi (fun (r : Int32) (_ : Unit) => r = res) (QW (dC, dI) cy A [(ax, .inr (5, [.int vxn, .ref axr, .ref axb, .ref axj, .int vxk, .ref axi, .ref axu, .long vxA, .long vxB, .long vxC, .long vxE])), (axr, .inl (cy, 8, .inl fxr)), (axb, .inl (cy, 8, .inl fxb)), (axj, .inl (cy, 6, .inl fxj))]) A) (([.ref ax, .int p0] : List Value).toArray) s 0 0 A) (F0 m 75 ls []))) → W p l e (headSpec wsX5_witness ({ frames := 4, cells := 0, slots := 0, locals := 93 })).room s m (([.ref ax, .int p0] : List Value).toArray) below meth c H locs 0 0 (MQ below (va_Qi (fun (r : Int32) (_ : Unit) => r = res) (QW (dC, dI) cy A [(ax, .inr (5, [.int vxn, .ref axr, .ref axb, .ref axj, .int vxk, .ref axi, .ref axu, .long vxA, .long vxB, .long vxC, .long vxE])), (axr, .inl (cy, 8, .inl fxr)), (axb, .inl (cy, 8, .inl fxb)), (axj, .inl (cy, 6, .inl fxj))]) A) (([.ref ax, .int p0] : List Value).toArray) s 0 0 A) (F0 m 27 ls []) := by
              intro n
              induction n with
              | zero =>
                intro l1 l2 l3 rs H locs ls h
                rw [fX5_witness_L27_0] at h
                cases h
              | succ n ih =>
                intro l1 l2 l3 rs H locs ls h hl hP hD hS kr kx
                rw [fX5_witness_L27_s] at h
                refine lv_iload_n hx hb dX5_witness_27 rfl (lv_at hl 3 rfl) ?_
                refine lv_bipush (v := (8 : Int32)) hx hb dX5_witness_28 (by decide) ?_
                refine lv_icmp_ge (tgt := 75) hx hb dX5_witness_30 (by decide) (fun c17 => ?_) (fun c17 => ?_)
                · rw [if_pos c17] at h
                  have h0 := Option.some.inj h
                  subst h0
                  exact kx _ rfl H locs ls (lv_sub hl [0, 1, 2, 3] rfl) hP hD hS
                · rw [if_neg c17] at h
                  refine lv_aload_n hx hb dX5_witness_33 rfl (lv_at hl 0 rfl) ?_
                  refine lv_iload_n hx hb dX5_witness_34 rfl (lv_at hl 1 rfl) ?_
                  refine lv_iload_n hx hb dX5_witness_35 rfl (lv_at hl 2 rfl) ?_
                  refine lv_iload_n hx hb dX5_witness_36 rfl (lv_at hl 3 rfl) ?_
                  obtain ⟨r12, hr12, h⟩ := bd_some h
                  have hFc := va_free (wc := [(ax, .inr (5, [.int vxn, .ref axr, .ref axb, .ref axj, .int vxk, .ref axi, .ref axu, .long vxA, .long vxB, .long vxC, .long vxE]))]) hD hS hA [0] rfl
                  refine va_calli (va_runV (As := [.int l1, .int l2, .int l3]) (rest := []) ⟨hx, hb, hml, hown, hts⟩ (c_X5_maySubject l dC dI cy ax axr axb axj axi axu H.size vxn vxk vxA vxB vxC vxE l1 l2 l3 r12 hr12) (cwV 3 hts gX5_witness_X5_maySubject rfl rfl rfl (by decide +kernel) ⟨Nat.le_of_ble_eq_true rfl, Nat.le_of_ble_eq_true rfl⟩) ⟨PW_fb, va_recv hK hP (ci := 5) (q0 := 0) rfl rfl, PW_pre (hP.sub (ws' := [(ax, .inr (5, [.int vxn, .ref axr, .ref axb, .ref axj, .int vxk, .ref axi, .ref axu, .long vxA, .long vxB, .long vxC, .long vxE]))]) [0] rfl) hK (hD.sub [0] (by decide) rfl) hN⟩ rfl rfl hl.1 rfl (lv_room (Nat.le_of_ble_eq_true rfl)) dX5_witness_37 ⟨Nat.zero_le _, Nat.zero_le _⟩) hS (fun q _ h => hFc q h) hFc (fun rz u t H locs ht hvm hw hB hz1 hk1 hS => ?_)
                  obtain ⟨hP, hD⟩ := jn (wr := [(axr, .inl (cy, 8, .inl fxr)), (axb, .inl (cy, 8, .inl fxb)), (axj, .inl (cy, 6, .inl fxj))]) (w1 := [(ax, .inr (5, [.int vxn, .ref axr, .ref axb, .ref axj, .int vxk, .ref axi, .ref axu, .long vxA, .long vxB, .long vxC, .long vxE]))]) (ws' := [(ax, .inr (5, [.int vxn, .ref axr, .ref axb, .ref axj, .int vxk, .ref axi, .ref axu, .long vxA, .long vxB, .long vxC, .long vxE])), (axr, .inl (cy, 8, .inl fxr)), (axb, .inl (cy, 8, .inl fxb)), (axj, .inl (cy, 6, .inl fxj))]) hP hD [0] [1, 2, 3] rfl rfl (by decide) (by decide) hk1 hFc hB ht [3, 0, 1, 2] rfl (by decide) rfl
                  obtain ⟨hw, br12⟩ := hw
                  replace hw := hw.symm
                  subst hw
                  clear hFc hB hk1 hz1 hvm
                  refine lv_if_eq (tgt := 69) hx hb dX5_witness_40 (by decide) (fun c16 => ?_) (fun c16 => ?_)
                  · rw [if_pos c16] at h
                    refine lv_iinc (v := l3 + (1 : Int32)) (lv' := [(3, .int (l3 + (1 : Int32))), (0, .ref ax), (1, .int l1), (2, .int l2)]) hx hb dX5_witness_69 hl (k := 3) rfl rfl (by decide) rfl (fun ls hl => ?_)
                    refine lv_goto (tgt := 27) hx hb dX5_witness_72 (by decide) ?_
                    exact ih l1 l2 (l3 + (1 : Int32)) rs H locs ls h (lv_sub hl [1, 2, 3, 0] rfl) hP hD hS kr kx
                  · rw [if_neg c16] at h
                    refine lv_aload_n hx hb dX5_witness_43 rfl (lv_at hl 0 rfl) ?_
                    refine lv_iload_n hx hb dX5_witness_44 rfl (lv_at hl 1 rfl) ?_
                    refine lv_iload_n hx hb dX5_witness_45 rfl (lv_at hl 2 rfl) ?_
                    refine lv_iload_n hx hb dX5_witness_46 rfl (lv_at hl 3 rfl) ?_
                    obtain ⟨r13, hr13, h⟩ := bd_some h
                    have hFc := va_free (wc := [(ax, .inr (5, [.int vxn, .ref axr, .ref axb, .ref axj, .int vxk, .ref axi, .ref axu, .long vxA, .long vxB, .long vxC, .long vxE])), (axr, .inl (cy, 8, .inl fxr)), (axb, .inl (cy, 8, .inl fxb)), (axj, .inl (cy, 6, .inl fxj))]) hD hS hA [0, 1, 2, 3] rfl
                    refine va_calli (va_runV (As := [.int l1, .int l2, .int l3]) (rest := []) ⟨hx, hb, hml, hown, hts⟩ (c_X5_showsOf l dC dI cy ax axr axb axj axi axu H.size vxn vxk vxA vxB vxC vxE fxr fxb fxj l1 l2 l3 r13 hr13) (cwV 3 hts gX5_witness_X5_showsOf rfl rfl rfl (by decide +kernel) ⟨Nat.le_of_ble_eq_true rfl, Nat.le_of_ble_eq_true rfl⟩) ⟨PW_fb, va_recv hK hP (ci := 5) (q0 := 0) rfl rfl, PW_pre (hP.sub (ws' := [(ax, .inr (5, [.int vxn, .ref axr, .ref axb, .ref axj, .int vxk, .ref axi, .ref axu, .long vxA, .long vxB, .long vxC, .long vxE])), (axr, .inl (cy, 8, .inl fxr)), (axb, .inl (cy, 8, .inl fxb)), (axj, .inl (cy, 6, .inl fxj))]) [0, 1, 2, 3] rfl) hK (hD.sub [0, 1, 2, 3] (by decide) rfl) hN⟩ rfl rfl hl.1 rfl (lv_room (Nat.le_of_ble_eq_true rfl)) dX5_witness_47 ⟨Nat.zero_le _, Nat.zero_le _⟩) hS (fun q _ h => hFc q h) hFc (fun rz u t H locs ht hvm hw hB hz1 hk1 hS => ?_)
                    obtain ⟨hP, hD⟩ := jn (wr := []) (w1 := [(ax, .inr (5, [.int vxn, .ref axr, .ref axb, .ref axj, .int vxk, .ref axi, .ref axu, .long vxA, .long vxB, .long vxC, .long vxE])), (axr, .inl (cy, 8, .inl fxr)), (axb, .inl (cy, 8, .inl fxb)), (axj, .inl (cy, 6, .inl fxj))]) (ws' := [(ax, .inr (5, [.int vxn, .ref axr, .ref axb, .ref axj, .int vxk, .ref axi, .ref axu, .long vxA, .long vxB, .long vxC, .long vxE])), (axr, .inl (cy, 8, .inl fxr)), (axb, .inl (cy, 8, .inl fxb)), (axj, .inl (cy, 6, .inl fxj))]) hP hD [0, 1, 2, 3] [] rfl rfl (by decide) (by decide) hk1 hFc hB ht [0, 1, 2, 3] rfl (by decide) rfl
                    obtain ⟨hw, br13⟩ := hw
                    replace hw := hw.symm
                    subst hw
                    clear hFc hB hk1 hz1 hvm
                    refine lv_if_eq (tgt := 69) hx hb dX5_witness_50 (by decide) (fun c15 => ?_) (fun c15 => ?_)
                    · rw [if_pos c15] at h
                      refine lv_iinc (v := l3 + (1 : Int32)) (lv' := [(3, .int (l3 + (1 : Int32))), (0, .ref ax), (1, .int l1), (2, .int l2)]) hx hb dX5_witness_69 hl (k := 3) rfl rfl (by decide) rfl (fun ls hl => ?_)
                      refine lv_goto (tgt := 27) hx hb dX5_witness_72 (by decide) ?_
                      exact ih l1 l2 (l3 + (1 : Int32)) rs H locs ls h (lv_sub hl [1, 2, 3, 0] rfl) hP hD hS kr kx
                    · rw [if_neg c15] at h
                      refine lv_iload_n hx hb dX5_witness_53 rfl (lv_at hl 1 rfl) ?_
                      refine lv_iconst (v := (5 : Int32)) hx hb dX5_witness_54 (by decide) ?_
                      refine lv_icmp_ne (tgt := 62) hx hb dX5_witness_55 (by decide) (fun c14 => ?_) (fun c14 => ?_)
                      · rw [if_neg c14] at h
                        refine lv_bipush (v := (100 : Int32)) hx hb dX5_witness_62 (by decide) ?_
                        refine lv_iload_n hx hb dX5_witness_64 rfl (lv_at hl 2 rfl) ?_
                        refine lv_imul hx hb dX5_witness_65 ?_
                        refine lv_iload_n hx hb dX5_witness_66 rfl (lv_at hl 3 rfl) ?_
                        refine lv_iadd hx hb dX5_witness_67 ?_
                        have h0 := Option.some.inj h
                        subst h0
                        have hk := kr _ rfl
                        subst hk
                        exact W.iret hx hb hr (fun t ht hW => ⟨⟨_, (), rfl, rfl, QW_mk hP hK hD ht hW⟩, hS.F ht⟩) hS.2.2 dX5_witness_68
                      · rw [if_pos c14] at h
                        refine lv_iload_n hx hb dX5_witness_58 rfl (lv_at hl 2 rfl) ?_
                        refine lv_goto (tgt := 68) hx hb dX5_witness_59 (by decide) ?_
                        have h0 := Option.some.inj h
                        subst h0
                        have hk := kr _ rfl
                        subst hk
                        exact W.iret hx hb hr (fun t ht hW => ⟨⟨_, (), rfl, rfl, QW_mk hP hK hD ht hW⟩, hS.F ht⟩) hS.2.2 dX5_witness_68
            obtain ⟨rq19, hq19, kq19, xq19⟩ := bt_some h
            refine L27_17 FU l1 l2 (0 : Int32) rq19 H locs ls hq19 (lv_sub hl [1, 2, 3, 0] rfl) hP hD hS (fun z ez => kr z (kq19 z ez)) (fun q19 eq19 H locs ls hl hP hD hS => ?_)
            replace h := xq19 q19 eq19
            refine lv_iinc (v := l2 + (1 : Int32)) (lv' := [(2, .int (l2 + (1 : Int32))), (0, .ref ax), (1, .int l1), (3, .int q19)]) hx hb dX5_witness_75 hl (k := 2) rfl rfl (by decide) rfl (fun ls hl => ?_)
            refine lv_goto (tgt := 19) hx hb dX5_witness_78 (by decide) ?_
            exact ih l1 (l2 + (1 : Int32)) rs H locs ls h (lv_sub hl [1, 2, 0] rfl) hP hD hS kr kx
      obtain ⟨rq22, hq22, kq22, xq22⟩ := bs_some h
      refine L19_20 FU p0 (0 : Int32) rq22 H locs ls hq22 (lv_sub hl [1, 2, 0] rfl) hP hD hS kq22 (fun q22 eq22 H locs ls hl hP hD hS => ?_)
      replace h := xq22 q22 eq22
      refine lv_iconst (v := (-1 : Int32)) hx hb dX5_witness_81 (by decide) ?_
      have h0 := Option.some.inj h
      subst h0
      exact W.iret hx hb hr (fun t ht hW => ⟨⟨_, (), rfl, rfl, QW_mk hP hK hD ht hW⟩, hS.F ht⟩) hS.2.2 dX5_witness_82
    · rw [if_neg c35] at h
      refine lv_iload_n hx hb dX5_witness_9 rfl (lv_at hl 1 rfl) ?_
      refine lv_iconst (v := (5 : Int32)) hx hb dX5_witness_10 (by decide) ?_
      refine lv_icmp_eq (tgt := 17) hx hb dX5_witness_11 (by decide) (fun c34 => ?_) (fun c34 => ?_)
      · rw [if_pos c34] at h
        refine lv_iconst (v := (0 : Int32)) hx hb dX5_witness_17 (by decide) ?_
        refine lv_istore_n (lv' := [(2, .int (0 : Int32)), (0, .ref ax), (1, .int p0)]) hx hb dX5_witness_18 rfl hl (by decide) rfl (fun ls hl => ?_)
        have L19_31 : ∀ (n : Nat) (l1 : Int32) (l2 : Int32) (rs : ((Int32) ⊕ (Int32))) (H : Heap) (locs : List Loc) (ls : Array Slot), fX5_witness_L19 n l1 l2 vxn vxk fxr fxb fxj = some rs → lv_has ls 4 [(0, .ref ax), (1, .int l1), (2, .int l2)] → va_P (dC, dI) vwCl [(ax, .inr (5, [.int vxn, .ref axr, .ref axb, .ref axj, .int vxk, .ref axi, .ref axu, .long vxA, .long vxB, .long vxC, .long vxE])), (axr, .inl (cy, 8, .inl fxr)), (axb, .inl (cy, 8, .inl fxb)), (axj, .inl (cy, 6, .inl fxj))] H → va_D A [(ax, .inr (5, [.int vxn, .ref axr, .ref axb, .ref axj, .int vxk, .ref axi, .ref axu, .long vxA, .long vxB, .long vxC, .long vxE])), (axr, .inl (cy, 8, .inl fxr)), (axb, .inl (cy, 8, .inl fxb)), (axj, .inl (cy, 6, .inl fxj))] → va_S A s.heap H locs → (∀ q, rs = .inl q → q = res) → (∀ q, rs = .inr q → (∀ (H : Heap) (locs : List Loc) (ls : Array Slot), lv_has ls 4 [(0, .ref ax), (1, .int l1), (2, .int q)] → va_P (dC, dI) vwCl [(ax, .inr (5, [.int vxn, .ref axr, .ref axb, .ref axj, .int vxk, .ref axi, .ref axu, .long vxA, .long vxB, .long vxC, .long vxE])), (axr, .inl (cy, 8, .inl fxr)), (axb, .inl (cy, 8, .inl fxb)), (axj, .inl (cy, 6, .inl fxj))] H → va_D A [(ax, .inr (5, [.int vxn, .ref axr, .ref axb, .ref axj, .int vxk, .ref axi, .ref axu, .long vxA, .long vxB, .long vxC, .long vxE])), (axr, .inl (cy, 8, .inl fxr)), (axb, .inl (cy, 8, .inl fxb)), (axj, .inl (cy, 6, .inl fxj))] → va_S A s.heap H locs → W p l e (headSpec wsX5_witness ({ frames := 4, cells := 0, slots := 0, locals := 93 })).room s m (([.ref ax, .int p0] : List Value).toArray) below meth c H locs 0 0 (MQ below (va_Qi (fun (r : Int32) (_ : Unit) => r = res) (QW (dC, dI) cy A [(ax, .inr (5, [.int vxn, .ref axr, .ref axb, .ref axj, .int vxk, .ref axi, .ref axu, .long vxA, .long vxB, .long vxC, .long vxE])), (axr, .inl (cy, 8, .inl fxr)), (axb, .inl (cy, 8, .inl fxb)), (axj, .inl (cy, 6, .inl fxj))]) A) (([.ref ax, .int p0] : List Value).toArray) s 0 0 A) (F0 m 81 ls []))) → W p l e (headSpec wsX5_witness ({ frames := 4, cells := 0, slots := 0, locals := 93 })).room s m (([.ref ax, .int p0] : List Value).toArray) below meth c H locs 0 0 (MQ below (va_Qi (fun (r : Int32) (_ : Unit) => r = res) (QW (dC, dI) cy A [(ax, .inr (5, [.int vxn, .ref axr, .ref axb, .ref axj, .int vxk, .ref axi, .ref axu, .long vxA, .long vxB, .long vxC, .long vxE])), (axr, .inl (cy, 8, .inl fxr)), (axb, .inl (cy, 8, .inl fxb)), (axj, .inl (cy, 6, .inl fxj))]) A) (([.ref ax, .int p0] : List Value).toArray) s 0 0 A) (F0 m 19 ls []) := by
          intro n
          induction n with
          | zero =>
            intro l1 l2 rs H locs ls h
            rw [fX5_witness_L19_0] at h
            cases h
          | succ n ih =>
            intro l1 l2 rs H locs ls h hl hP hD hS kr kx
            rw [fX5_witness_L19_s] at h
            refine lv_iload_n hx hb dX5_witness_19 rfl (lv_at hl 2 rfl) ?_
            refine lv_bipush (v := (64 : Int32)) hx hb dX5_witness_20 (by decide) ?_
            refine lv_icmp_ge (tgt := 81) hx hb dX5_witness_22 (by decide) (fun c31 => ?_) (fun c31 => ?_)
            · rw [if_pos c31] at h
              have h0 := Option.some.inj h
              subst h0
              exact kx _ rfl H locs ls (lv_sub hl [0, 1, 2] rfl) hP hD hS
            · rw [if_neg c31] at h
              refine lv_iconst (v := (0 : Int32)) hx hb dX5_witness_25 (by decide) ?_
              refine lv_istore_n (lv' := [(3, .int (0 : Int32)), (0, .ref ax), (1, .int l1), (2, .int l2)]) hx hb dX5_witness_26 rfl hl (by decide) rfl (fun ls hl => ?_)
              have L27_28 : ∀ (n : Nat) (l1 : Int32) (l2 : Int32) (l3 : Int32) (rs : ((Int32) ⊕ (Int32))) (H : Heap) (locs : List Loc) (ls : Array Slot), fX5_witness_L27 n l1 l2 l3 vxn vxk fxr fxb fxj = some rs → lv_has ls 4 [(0, .ref ax), (1, .int l1), (2, .int l2), (3, .int l3)] → va_P (dC, dI) vwCl [(ax, .inr (5, [.int vxn, .ref axr, .ref axb, .ref axj, .int vxk, .ref axi, .ref axu, .long vxA, .long vxB, .long vxC, .long vxE])), (axr, .inl (cy, 8, .inl fxr)), (axb, .inl (cy, 8, .inl fxb)), (axj, .inl (cy, 6, .inl fxj))] H → va_D A [(ax, .inr (5, [.int vxn, .ref axr, .ref axb, .ref axj, .int vxk, .ref axi, .ref axu, .long vxA, .long vxB, .long vxC, .long vxE])), (axr, .inl (cy, 8, .inl fxr)), (axb, .inl (cy, 8, .inl fxb)), (axj, .inl (cy, 6, .inl fxj))] → va_S A s.heap H locs → (∀ q, rs = .inl q → q = res) → (∀ q, rs = .inr q → (∀ (H : Heap) (locs : List Loc) (ls : Array Slot), lv_has ls 4 [(0, .ref ax), (1, .int l1), (2, .int l2), (3, .int q)] → va_P (dC, dI) vwCl [(ax, .inr (5, [.int vxn, .ref axr, .ref axb, .ref axj, .int vxk, .ref axi, .ref axu, .long vxA, .long vxB, .long vxC, .long vxE])), (axr, .inl (cy, 8, .inl fxr)), (axb, .inl (cy, 8, .inl fxb)), (axj, .inl (cy, 6, .inl fxj))] H → va_D A [(ax, .inr (5, [.int vxn, .ref axr, .ref axb, .ref axj, .int vxk, .ref axi, .ref axu, .long vxA, .long vxB, .long vxC, .long vxE])), (axr, .inl (cy, 8, .inl fxr)), (axb, .inl (cy, 8, .inl fxb)), (axj, .inl (cy, 6, .inl fxj))] → va_S A s.heap H locs → W p l e (headSpec wsX5_witness ({ frames := 4, cells := 0, slots := 0, locals := 93 })).room s m (([.ref ax, .int p0] : List Value).toArray) below meth c H locs 0 0 (MQ below (va_Qi (fun (r : Int32) (_ : Unit) => r = res) (QW (dC, dI) cy A [(ax, .inr (5, [.int vxn, .ref axr, .ref axb, .ref axj, .int vxk, .ref axi, .ref axu, .long vxA, .long vxB, .long vxC, .long vxE])), (axr, .inl (cy, 8, .inl fxr)), (axb, .inl (cy, 8, .inl fxb)), (axj, .inl (cy, 6, .inl fxj))]) A) (([.ref ax, .int p0] : List Value).toArray) s 0 0 A) (F0 m 75 ls []))) → W p l e (headSpec wsX5_witness ({ frames := 4, cells := 0, slots := 0, locals := 93 })).room s m (([.ref ax, .int p0] : List Value).toArray) below meth c H locs 0 0 (MQ below (va_Qi (fun (r : Int32) (_ : Unit) => r = res) (QW (dC, dI) cy A [(ax, .inr (5, [.int vxn, .ref axr, .ref axb, .ref axj, .int vxk, .ref axi, .ref axu, .long vxA, .long vxB, .long vxC, .long vxE])), (axr, .inl (cy, 8, .inl fxr)), (axb, .inl (cy, 8, .inl fxb)), (axj, .inl (cy, 6, .inl fxj))]) A) (([.ref ax, .int p0] : List Value).toArray) s 0 0 A) (F0 m 27 ls []) := by
                intro n
                induction n with
                | zero =>
                  intro l1 l2 l3 rs H locs ls h
                  rw [fX5_witness_L27_0] at h
                  cases h
                | succ n ih =>
                  intro l1 l2 l3 rs H locs ls h hl hP hD hS kr kx
                  rw [fX5_witness_L27_s] at h
                  refine lv_iload_n hx hb dX5_witness_27 rfl (lv_at hl 3 rfl) ?_
                  refine lv_bipush (v := (8 : Int32)) hx hb dX5_witness_28 (by decide) ?_
                  refine lv_icmp_ge (tgt := 75) hx hb dX5_witness_30 (by decide) (fun c28 => ?_) (fun c28 => ?_)
                  · rw [if_pos c28] at h
                    have h0 := Option.some.inj h
                    subst h0
                    exact kx _ rfl H locs ls (lv_sub hl [0, 1, 2, 3] rfl) hP hD hS
                  · rw [if_neg c28] at h
                    refine lv_aload_n hx hb dX5_witness_33 rfl (lv_at hl 0 rfl) ?_
                    refine lv_iload_n hx hb dX5_witness_34 rfl (lv_at hl 1 rfl) ?_
                    refine lv_iload_n hx hb dX5_witness_35 rfl (lv_at hl 2 rfl) ?_
                    refine lv_iload_n hx hb dX5_witness_36 rfl (lv_at hl 3 rfl) ?_
                    obtain ⟨r23, hr23, h⟩ := bd_some h
                    have hFc := va_free (wc := [(ax, .inr (5, [.int vxn, .ref axr, .ref axb, .ref axj, .int vxk, .ref axi, .ref axu, .long vxA, .long vxB, .long vxC, .long vxE]))]) hD hS hA [0] rfl
                    refine va_calli (va_runV (As := [.int l1, .int l2, .int l3]) (rest := []) ⟨hx, hb, hml, hown, hts⟩ (c_X5_maySubject l dC dI cy ax axr axb axj axi axu H.size vxn vxk vxA vxB vxC vxE l1 l2 l3 r23 hr23) (cwV 3 hts gX5_witness_X5_maySubject rfl rfl rfl (by decide +kernel) ⟨Nat.le_of_ble_eq_true rfl, Nat.le_of_ble_eq_true rfl⟩) ⟨PW_fb, va_recv hK hP (ci := 5) (q0 := 0) rfl rfl, PW_pre (hP.sub (ws' := [(ax, .inr (5, [.int vxn, .ref axr, .ref axb, .ref axj, .int vxk, .ref axi, .ref axu, .long vxA, .long vxB, .long vxC, .long vxE]))]) [0] rfl) hK (hD.sub [0] (by decide) rfl) hN⟩ rfl rfl hl.1 rfl (lv_room (Nat.le_of_ble_eq_true rfl)) dX5_witness_37 ⟨Nat.zero_le _, Nat.zero_le _⟩) hS (fun q _ h => hFc q h) hFc (fun rz u t H locs ht hvm hw hB hz1 hk1 hS => ?_)
                    obtain ⟨hP, hD⟩ := jn (wr := [(axr, .inl (cy, 8, .inl fxr)), (axb, .inl (cy, 8, .inl fxb)), (axj, .inl (cy, 6, .inl fxj))]) (w1 := [(ax, .inr (5, [.int vxn, .ref axr, .ref axb, .ref axj, .int vxk, .ref axi, .ref axu, .long vxA, .long vxB, .long vxC, .long vxE]))]) (ws' := [(ax, .inr (5, [.int vxn, .ref axr, .ref axb, .ref axj, .int vxk, .ref axi, .ref axu, .long vxA, .long vxB, .long vxC, .long vxE])), (axr, .inl (cy, 8, .inl fxr)), (axb, .inl (cy, 8, .inl fxb)), (axj, .inl (cy, 6, .inl fxj))]) hP hD [0] [1, 2, 3] rfl rfl (by decide) (by decide) hk1 hFc hB ht [3, 0, 1, 2] rfl (by decide) rfl
                    obtain ⟨hw, br23⟩ := hw
                    replace hw := hw.symm
                    subst hw
                    clear hFc hB hk1 hz1 hvm
                    refine lv_if_eq (tgt := 69) hx hb dX5_witness_40 (by decide) (fun c27 => ?_) (fun c27 => ?_)
                    · rw [if_pos c27] at h
                      refine lv_iinc (v := l3 + (1 : Int32)) (lv' := [(3, .int (l3 + (1 : Int32))), (0, .ref ax), (1, .int l1), (2, .int l2)]) hx hb dX5_witness_69 hl (k := 3) rfl rfl (by decide) rfl (fun ls hl => ?_)
                      refine lv_goto (tgt := 27) hx hb dX5_witness_72 (by decide) ?_
                      exact ih l1 l2 (l3 + (1 : Int32)) rs H locs ls h (lv_sub hl [1, 2, 3, 0] rfl) hP hD hS kr kx
                    · rw [if_neg c27] at h
                      refine lv_aload_n hx hb dX5_witness_43 rfl (lv_at hl 0 rfl) ?_
                      refine lv_iload_n hx hb dX5_witness_44 rfl (lv_at hl 1 rfl) ?_
                      refine lv_iload_n hx hb dX5_witness_45 rfl (lv_at hl 2 rfl) ?_
                      refine lv_iload_n hx hb dX5_witness_46 rfl (lv_at hl 3 rfl) ?_
                      obtain ⟨r24, hr24, h⟩ := bd_some h
                      have hFc := va_free (wc := [(ax, .inr (5, [.int vxn, .ref axr, .ref axb, .ref axj, .int vxk, .ref axi, .ref axu, .long vxA, .long vxB, .long vxC, .long vxE])), (axr, .inl (cy, 8, .inl fxr)), (axb, .inl (cy, 8, .inl fxb)), (axj, .inl (cy, 6, .inl fxj))]) hD hS hA [0, 1, 2, 3] rfl
                      refine va_calli (va_runV (As := [.int l1, .int l2, .int l3]) (rest := []) ⟨hx, hb, hml, hown, hts⟩ (c_X5_showsOf l dC dI cy ax axr axb axj axi axu H.size vxn vxk vxA vxB vxC vxE fxr fxb fxj l1 l2 l3 r24 hr24) (cwV 3 hts gX5_witness_X5_showsOf rfl rfl rfl (by decide +kernel) ⟨Nat.le_of_ble_eq_true rfl, Nat.le_of_ble_eq_true rfl⟩) ⟨PW_fb, va_recv hK hP (ci := 5) (q0 := 0) rfl rfl, PW_pre (hP.sub (ws' := [(ax, .inr (5, [.int vxn, .ref axr, .ref axb, .ref axj, .int vxk, .ref axi, .ref axu, .long vxA, .long vxB, .long vxC, .long vxE])), (axr, .inl (cy, 8, .inl fxr)), (axb, .inl (cy, 8, .inl fxb)), (axj, .inl (cy, 6, .inl fxj))]) [0, 1, 2, 3] rfl) hK (hD.sub [0, 1, 2, 3] (by decide) rfl) hN⟩ rfl rfl hl.1 rfl (lv_room (Nat.le_of_ble_eq_true rfl)) dX5_witness_47 ⟨Nat.zero_le _, Nat.zero_le _⟩) hS (fun q _ h => hFc q h) hFc (fun rz u t H locs ht hvm hw hB hz1 hk1 hS => ?_)
                      obtain ⟨hP, hD⟩ := jn (wr := []) (w1 := [(ax, .inr (5, [.int vxn, .ref axr, .ref axb, .ref axj, .int vxk, .ref axi, .ref axu, .long vxA, .long vxB, .long vxC, .long vxE])), (axr, .inl (cy, 8, .inl fxr)), (axb, .inl (cy, 8, .inl fxb)), (axj, .inl (cy, 6, .inl fxj))]) (ws' := [(ax, .inr (5, [.int vxn, .ref axr, .ref axb, .ref axj, .int vxk, .ref axi, .ref axu, .long vxA, .long vxB, .long vxC, .long vxE])), (axr, .inl (cy, 8, .inl fxr)), (axb, .inl (cy, 8, .inl fxb)), (axj, .inl (cy, 6, .inl fxj))]) hP hD [0, 1, 2, 3] [] rfl rfl (by decide) (by decide) hk1 hFc hB ht [0, 1, 2, 3] rfl (by decide) rfl
                      obtain ⟨hw, br24⟩ := hw
                      replace hw := hw.symm
                      subst hw
                      clear hFc hB hk1 hz1 hvm
                      refine lv_if_eq (tgt := 69) hx hb dX5_witness_50 (by decide) (fun c26 => ?_) (fun c26 => ?_)
                      · rw [if_pos c26] at h
                        refine lv_iinc (v := l3 + (1 : Int32)) (lv' := [(3, .int (l3 + (1 : Int32))), (0, .ref ax), (1, .int l1), (2, .int l2)]) hx hb dX5_witness_69 hl (k := 3) rfl rfl (by decide) rfl (fun ls hl => ?_)
                        refine lv_goto (tgt := 27) hx hb dX5_witness_72 (by decide) ?_
                        exact ih l1 l2 (l3 + (1 : Int32)) rs H locs ls h (lv_sub hl [1, 2, 3, 0] rfl) hP hD hS kr kx
                      · rw [if_neg c26] at h
                        refine lv_iload_n hx hb dX5_witness_53 rfl (lv_at hl 1 rfl) ?_
                        refine lv_iconst (v := (5 : Int32)) hx hb dX5_witness_54 (by decide) ?_
                        refine lv_icmp_ne (tgt := 62) hx hb dX5_witness_55 (by decide) (fun c25 => ?_) (fun c25 => ?_)
                        · rw [if_neg c25] at h
                          refine lv_bipush (v := (100 : Int32)) hx hb dX5_witness_62 (by decide) ?_
                          refine lv_iload_n hx hb dX5_witness_64 rfl (lv_at hl 2 rfl) ?_
                          refine lv_imul hx hb dX5_witness_65 ?_
                          refine lv_iload_n hx hb dX5_witness_66 rfl (lv_at hl 3 rfl) ?_
                          refine lv_iadd hx hb dX5_witness_67 ?_
                          have h0 := Option.some.inj h
                          subst h0
                          have hk := kr _ rfl
                          subst hk
                          exact W.iret hx hb hr (fun t ht hW => ⟨⟨_, (), rfl, rfl, QW_mk hP hK hD ht hW⟩, hS.F ht⟩) hS.2.2 dX5_witness_68
                        · rw [if_pos c25] at h
                          refine lv_iload_n hx hb dX5_witness_58 rfl (lv_at hl 2 rfl) ?_
                          refine lv_goto (tgt := 68) hx hb dX5_witness_59 (by decide) ?_
                          have h0 := Option.some.inj h
                          subst h0
                          have hk := kr _ rfl
                          subst hk
                          exact W.iret hx hb hr (fun t ht hW => ⟨⟨_, (), rfl, rfl, QW_mk hP hK hD ht hW⟩, hS.F ht⟩) hS.2.2 dX5_witness_68
              obtain ⟨rq30, hq30, kq30, xq30⟩ := bt_some h
              refine L27_28 FU l1 l2 (0 : Int32) rq30 H locs ls hq30 (lv_sub hl [1, 2, 3, 0] rfl) hP hD hS (fun z ez => kr z (kq30 z ez)) (fun q30 eq30 H locs ls hl hP hD hS => ?_)
              replace h := xq30 q30 eq30
              refine lv_iinc (v := l2 + (1 : Int32)) (lv' := [(2, .int (l2 + (1 : Int32))), (0, .ref ax), (1, .int l1), (3, .int q30)]) hx hb dX5_witness_75 hl (k := 2) rfl rfl (by decide) rfl (fun ls hl => ?_)
              refine lv_goto (tgt := 19) hx hb dX5_witness_78 (by decide) ?_
              exact ih l1 (l2 + (1 : Int32)) rs H locs ls h (lv_sub hl [1, 2, 0] rfl) hP hD hS kr kx
        obtain ⟨rq33, hq33, kq33, xq33⟩ := bs_some h
        refine L19_31 FU p0 (0 : Int32) rq33 H locs ls hq33 (lv_sub hl [1, 2, 0] rfl) hP hD hS kq33 (fun q33 eq33 H locs ls hl hP hD hS => ?_)
        replace h := xq33 q33 eq33
        refine lv_iconst (v := (-1 : Int32)) hx hb dX5_witness_81 (by decide) ?_
        have h0 := Option.some.inj h
        subst h0
        exact W.iret hx hb hr (fun t ht hW => ⟨⟨_, (), rfl, rfl, QW_mk hP hK hD ht hW⟩, hS.F ht⟩) hS.2.2 dX5_witness_82
      · rw [if_neg c34] at h
        refine lv_bipush (v := (-2 : Int32)) hx hb dX5_witness_14 (by decide) ?_
        have h0 := Option.some.inj h
        subst h0
        exact W.iret hx hb hr (fun t ht hW => ⟨⟨_, (), rfl, rfl, QW_mk hP hK hD ht hW⟩, hS.F ht⟩) hS.2.2 dX5_witness_16

noncomputable def fX5_count_L48 (n : Nat) (l2 : Int32) (l3 : Int32) (fxj : Nat → Int32) : Option (Int32 × Int32) := match n with
  | 0 => none
  | n + 1 => if (6 : Int32) ≤ l3 then (some (l2, l3)) else (gin l3 6 (bd (fX5_ones (fxj l3.toNatClampNeg)) fun r4 => fX5_count_L48 n (l2 + r4) (l3 + (1 : Int32)) fxj))
theorem fX5_count_L48_0 (l2 : Int32) (l3 : Int32) (fxj : Nat → Int32) : fX5_count_L48 0 l2 l3 fxj = none := rfl
theorem fX5_count_L48_s (n : Nat) (l2 : Int32) (l3 : Int32) (fxj : Nat → Int32) : fX5_count_L48 (n + 1) l2 l3 fxj = if (6 : Int32) ≤ l3 then (some (l2, l3)) else (gin l3 6 (bd (fX5_ones (fxj l3.toNatClampNeg)) fun r4 => fX5_count_L48 n (l2 + r4) (l3 + (1 : Int32)) fxj)) := rfl
noncomputable def fX5_count_L78 (n : Nat) (l2 : Int32) (l3 : Int32) (fxb : Nat → Int32) : Option (Int32 × Int32) := match n with
  | 0 => none
  | n + 1 => if (8 : Int32) ≤ l3 then (some (l2, l3)) else (gin l3 8 (fX5_count_L78 n (l2 + (fxb l3.toNatClampNeg)) (l3 + (1 : Int32)) fxb))
theorem fX5_count_L78_0 (l2 : Int32) (l3 : Int32) (fxb : Nat → Int32) : fX5_count_L78 0 l2 l3 fxb = none := rfl
theorem fX5_count_L78_s (n : Nat) (l2 : Int32) (l3 : Int32) (fxb : Nat → Int32) : fX5_count_L78 (n + 1) l2 l3 fxb = if (8 : Int32) ≤ l3 then (some (l2, l3)) else (gin l3 8 (fX5_count_L78 n (l2 + (fxb l3.toNatClampNeg)) (l3 + (1 : Int32)) fxb)) := rfl
noncomputable def fX5_count_L103 (n : Nat) (l2 : Int32) (l3 : Int32) (vxn : Int32) (fxr : Nat → Int32) : Option (Int32 × Int32) := match n with
  | 0 => none
  | n + 1 => if vxn ≤ l3 then (some (l2, l3)) else (gin l3 8 (fX5_count_L103 n (l2 + (fxr l3.toNatClampNeg)) (l3 + (1 : Int32)) vxn fxr))
theorem fX5_count_L103_0 (l2 : Int32) (l3 : Int32) (vxn : Int32) (fxr : Nat → Int32) : fX5_count_L103 0 l2 l3 vxn fxr = none := rfl
theorem fX5_count_L103_s (n : Nat) (l2 : Int32) (l3 : Int32) (vxn : Int32) (fxr : Nat → Int32) : fX5_count_L103 (n + 1) l2 l3 vxn fxr = if vxn ≤ l3 then (some (l2, l3)) else (gin l3 8 (fX5_count_L103 n (l2 + (fxr l3.toNatClampNeg)) (l3 + (1 : Int32)) vxn fxr)) := rfl
noncomputable def fX5_count (vxn : Int32) (vxk : Int32) (fxr : Nat → Int32) (fxb : Nat → Int32) (fxj : Nat → Int32) (p0 : Int32) : Option (Int32) := if p0 = (0 : Int32) then (some vxn) else (if p0 = (1 : Int32) then (some vxk) else (if p0 = (2 : Int32) then (bd (fX5_count_L48 FU (0 : Int32) (0 : Int32) fxj) fun q7 => some (q7.1 / (2 : Int32))) else (if p0 = (3 : Int32) then (bd (fX5_count_L78 FU (0 : Int32) (0 : Int32) fxb) fun q11 => some q11.1) else (if p0 = (4 : Int32) then (bd (fX5_count_L103 FU (0 : Int32) (0 : Int32) vxn fxr) fun q15 => some q15.1) else (some (-2 : Int32))))))
set_option maxHeartbeats 4000000 in
set_option maxRecDepth 100000 in
theorem c_X5_count (l : Launch) (dC : Nat → ClassId) (dI : Nat → Nat → Nat) (cy : ClassId) (ax axr axb axj axi axu : Nat) (sz : Nat) (vxn : Int32) (vxk : Int32) (vxA : Int64) (vxB : Int64) (vxC : Int64) (vxE : Int64) (fxr : Nat → Int32) (fxb : Nat → Int32) (fxj : Nat → Int32) (p0 : Int32) (res : Int32) (h : fX5_count vxn vxk fxr fxb fxj p0 = some res) : Met l yX5_count wsX5_count ({ frames := 1, cells := 0, slots := 0, locals := 22 }) (va_Pc [.ref ax, .int p0] (PW (dC, dI) cy sz [(ax, .inr (5, [.int vxn, .ref axr, .ref axb, .ref axj, .int vxk, .ref axi, .ref axu, .long vxA, .long vxB, .long vxC, .long vxE])), (axr, .inl (cy, 8, .inl fxr)), (axb, .inl (cy, 8, .inl fxb)), (axj, .inl (cy, 6, .inl fxj))])) (va_Qi (fun (r : Int32) (_ : Unit) => r = res) (QW (dC, dI) cy (va_A [(ax, .inr (5, [.int vxn, .ref axr, .ref axb, .ref axj, .int vxk, .ref axi, .ref axu, .long vxA, .long vxB, .long vxC, .long vxE])), (axr, .inl (cy, 8, .inl fxr)), (axb, .inl (cy, 8, .inl fxb)), (axj, .inl (cy, 6, .inl fxj))] sz) [(ax, .inr (5, [.int vxn, .ref axr, .ref axb, .ref axj, .int vxk, .ref axi, .ref axu, .long vxA, .long vxB, .long vxC, .long vxE])), (axr, .inl (cy, 8, .inl fxr)), (axb, .inl (cy, 8, .inl fxb)), (axj, .inl (cy, 6, .inl fxj))]) (va_A [(ax, .inr (5, [.int vxn, .ref axr, .ref axb, .ref axj, .int vxk, .ref axi, .ref axu, .long vxA, .long vxB, .long vxC, .long vxE])), (axr, .inl (cy, 8, .inl fxr)), (axb, .inl (cy, 8, .inl fxb)), (axj, .inl (cy, 6, .inl fxj))] sz)) 0 0 (va_A [(ax, .inr (5, [.int vxn, .ref axr, .ref axb, .ref axj, .int vxk, .ref axi, .ref axu, .long vxA, .long vxB, .long vxC, .long vxE])), (axr, .inl (cy, 8, .inl fxr)), (axb, .inl (cy, 8, .inl fxb)), (axj, .inl (cy, 6, .inl fxj))] sz) := by
  refine Met.ofW (cc := cX5_count) (maxL := 4) (ret := (some .int)) (by decide) rfl ?_
  intro p e s m args below meth c s₁ B hml hv
  obtain ⟨rfl, hsz, hP, hK, hD0, hN⟩ := hv
  have hx := B.exec
  have hb := B.bytes
  have hr := B.returns
  have hts := atoms_spec (ws := wsX5_count) B.pre
  have hown : s.vm.findClass RX5 = some m.cls := findClass_of_methodNamed B.named
  have hlocks := B.notSynchronized
  subst hsz
  have hD := hD0.self (sz := s.heap.size)
  clear hD0
  generalize hAe : va_A [(ax, .inr (5, [.int vxn, .ref axr, .ref axb, .ref axj, .int vxk, .ref axi, .ref axu, .long vxA, .long vxB, .long vxC, .long vxE])), (axr, .inl (cy, 8, .inl fxr)), (axb, .inl (cy, 8, .inl fxb)), (axj, .inl (cy, 6, .inl fxj))] s.heap.size = A at hD ⊢
  have hA : ∀ q : Nat, s.heap.size ≤ q → A q := fun q h => by rw [← hAe]; exact Or.inr h
  have hS : va_S A s.heap s.heap [] := va_S.rf
  have hl := lv_entry ([.ref ax, .int p0]) (n := 4) (Nat.le_of_ble_eq_true rfl)
  rw [lg_entry_eq]
  generalize (lg_sl ([.ref ax, .int p0]) ++ List.replicate (4 - (lg_sl ([.ref ax, .int p0])).length) Slot.unset).toArray = ls at hl ⊢
  replace hl : lv_has ls 4 [(0, .ref ax), (1, .int p0)] := hl
  replace hP : va_P (dC, dI) vwCl [(ax, .inr (5, [.int vxn, .ref axr, .ref axb, .ref axj, .int vxk, .ref axi, .ref axu, .long vxA, .long vxB, .long vxC, .long vxE])), (axr, .inl (cy, 8, .inl fxr)), (axb, .inl (cy, 8, .inl fxb)), (axj, .inl (cy, 6, .inl fxj))] s.heap := hP
  obtain ⟨locs, hlocs⟩ : ∃ lc : List Loc, lc = [] := ⟨_, rfl⟩
  rw [← hlocs] at hS ⊢
  obtain ⟨H, hH⟩ : ∃ H : Heap, H = s.heap := ⟨_, rfl⟩
  have hP2 := hP; rw [← hH] at hP2
  have hS2 : va_S A s.heap H locs := by rw [hH]; exact hS
  suffices hgo : W p l e (headSpec wsX5_count ({ frames := 1, cells := 0, slots := 0, locals := 22 })).room s m (([.ref ax, .int p0] : List Value).toArray) below meth c H locs 0 0 (MQ below (va_Qi (fun (r : Int32) (_ : Unit) => r = res) (QW (dC, dI) cy A [(ax, .inr (5, [.int vxn, .ref axr, .ref axb, .ref axj, .int vxk, .ref axi, .ref axu, .long vxA, .long vxB, .long vxC, .long vxE])), (axr, .inl (cy, 8, .inl fxr)), (axb, .inl (cy, 8, .inl fxb)), (axj, .inl (cy, 6, .inl fxj))]) A) (([.ref ax, .int p0] : List Value).toArray) s 0 0 A) (F0 m 0 ls []) by rw [hH] at hgo; exact hgo
  replace hP := hP2
  replace hS := hS2
  clear hP2 hS2
  have hin_X5 : ∀ w ∈ wsX50, w ∈ wsX5_count := by decide +kernel
  have hf_7 := hts (.fieldLink RX5 7 "FewLooksModel" "n" "I") (by decide +kernel)
  have hf_13 := hts (.fieldLink RX5 13 "FewLooksModel" "row" "[I") (by decide +kernel)
  have hf_17 := hts (.fieldLink RX5 17 "FewLooksModel" "table" "[I") (by decide +kernel)
  have hf_20 := hts (.fieldLink RX5 20 "FewLooksModel" "joined" "[I") (by decide +kernel)
  have hf_23 := hts (.fieldLink RX5 23 "FewLooksModel" "k" "I") (by decide +kernel)
  unfold fX5_count at h
  refine lv_iconst (v := (0 : Int32)) hx hb dX5_count_0 (by decide) ?_
  refine lv_istore_n (lv' := [(2, .int (0 : Int32)), (0, .ref ax), (1, .int p0)]) hx hb dX5_count_1 rfl hl (by decide) rfl (fun ls hl => ?_)
  refine lv_iload_n hx hb dX5_count_2 rfl (lv_at hl 2 rfl) ?_
  by_cases c1 : p0 = (0 : Int32)
  · rw [if_pos c1] at h
    have ec1 : (p0).toInt = 0 := by rw [c1]; rfl
    refine lv_tableIn (tgt := 36) hx hb dX5_count_3 (by rw [ec1]; decide) (by rw [ec1]; decide) (by rw [ec1]; rfl) (by decide) ?_
    refine lv_aload_n hx hb dX5_count_36 rfl (lv_at hl 1 rfl) ?_
    refine va_get (D := (dC, dI)) (ci := 5) (v := .int vxn) (C := RX5) (T := TX5) (N := 11) hx hb hts hin_X5 hown hK hP 0 rfl rfl 0 (by decide) (hf_7) (fun _ h9 => h9) rfl dX5_count_37 ?_
    have h0 := Option.some.inj h
    subst h0
    exact W.iret hx hb hr (fun t ht hW => ⟨⟨_, (), rfl, rfl, QW_mk hP hK hD ht hW⟩, hS.F ht⟩) hS.2.2 dX5_count_40
  · rw [if_neg c1] at h
    by_cases c2 : p0 = (1 : Int32)
    · rw [if_pos c2] at h
      have ec2 : (p0).toInt = 1 := by rw [c2]; rfl
      refine lv_tableIn (tgt := 41) hx hb dX5_count_3 (by rw [ec2]; decide) (by rw [ec2]; decide) (by rw [ec2]; rfl) (by decide) ?_
      refine lv_aload_n hx hb dX5_count_41 rfl (lv_at hl 1 rfl) ?_
      refine va_get (D := (dC, dI)) (ci := 5) (v := .int vxk) (C := RX5) (T := TX5) (N := 11) hx hb hts hin_X5 hown hK hP 0 rfl rfl 4 (by decide) (hf_23) (fun _ h9 => h9) rfl dX5_count_42 ?_
      have h0 := Option.some.inj h
      subst h0
      exact W.iret hx hb hr (fun t ht hW => ⟨⟨_, (), rfl, rfl, QW_mk hP hK hD ht hW⟩, hS.F ht⟩) hS.2.2 dX5_count_45
    · rw [if_neg c2] at h
      by_cases c3 : p0 = (2 : Int32)
      · rw [if_pos c3] at h
        have ec3 : (p0).toInt = 2 := by rw [c3]; rfl
        refine lv_tableIn (tgt := 46) hx hb dX5_count_3 (by rw [ec3]; decide) (by rw [ec3]; decide) (by rw [ec3]; rfl) (by decide) ?_
        refine lv_iconst (v := (0 : Int32)) hx hb dX5_count_46 (by decide) ?_
        refine lv_istore_n (lv' := [(3, .int (0 : Int32)), (2, .int (0 : Int32)), (0, .ref ax), (1, .int p0)]) hx hb dX5_count_47 rfl hl (by decide) rfl (fun ls hl => ?_)
        have L48_5 : ∀ (n : Nat) (l1 : Int32) (l2 : Int32) (l3 : Int32) (rs : (Int32 × Int32)) (H : Heap) (locs : List Loc) (ls : Array Slot), fX5_count_L48 n l2 l3 fxj = some rs → lv_has ls 4 [(0, .ref ax), (1, .int l1), (2, .int l2), (3, .int l3)] → va_P (dC, dI) vwCl [(ax, .inr (5, [.int vxn, .ref axr, .ref axb, .ref axj, .int vxk, .ref axi, .ref axu, .long vxA, .long vxB, .long vxC, .long vxE])), (axr, .inl (cy, 8, .inl fxr)), (axb, .inl (cy, 8, .inl fxb)), (axj, .inl (cy, 6, .inl fxj))] H → va_D A [(ax, .inr (5, [.int vxn, .ref axr, .ref axb, .ref axj, .int vxk, .ref axi, .ref axu, .long vxA, .long vxB, .long vxC, .long vxE])), (axr, .inl (cy, 8, .inl fxr)), (axb, .inl (cy, 8, .inl fxb)), (axj, .inl (cy, 6, .inl fxj))] → va_S A s.heap H locs → (∀ (H : Heap) (locs : List Loc) (ls : Array Slot), lv_has ls 4 [(0, .ref ax), (1, .int l1), (2, .int rs.1), (3, .int rs.2)] → va_P (dC, dI) vwCl [(ax, .inr (5, [.int vxn, .ref axr, .ref axb, .ref axj, .int vxk, .ref axi, .ref axu, .long vxA, .long vxB, .long vxC, .long vxE])), (axr, .inl (cy, 8, .inl fxr)), (axb, .inl (cy, 8, .inl fxb)), (axj, .inl (cy, 6, .inl fxj))] H → va_D A [(ax, .inr (5, [.int vxn, .ref axr, .ref axb, .ref axj, .int vxk, .ref axi, .ref axu, .long vxA, .long vxB, .long vxC, .long vxE])), (axr, .inl (cy, 8, .inl fxr)), (axb, .inl (cy, 8, .inl fxb)), (axj, .inl (cy, 6, .inl fxj))] → va_S A s.heap H locs → W p l e (headSpec wsX5_count ({ frames := 1, cells := 0, slots := 0, locals := 22 })).room s m (([.ref ax, .int p0] : List Value).toArray) below meth c H locs 0 0 (MQ below (va_Qi (fun (r : Int32) (_ : Unit) => r = res) (QW (dC, dI) cy A [(ax, .inr (5, [.int vxn, .ref axr, .ref axb, .ref axj, .int vxk, .ref axi, .ref axu, .long vxA, .long vxB, .long vxC, .long vxE])), (axr, .inl (cy, 8, .inl fxr)), (axb, .inl (cy, 8, .inl fxb)), (axj, .inl (cy, 6, .inl fxj))]) A) (([.ref ax, .int p0] : List Value).toArray) s 0 0 A) (F0 m 72 ls [])) → W p l e (headSpec wsX5_count ({ frames := 1, cells := 0, slots := 0, locals := 22 })).room s m (([.ref ax, .int p0] : List Value).toArray) below meth c H locs 0 0 (MQ below (va_Qi (fun (r : Int32) (_ : Unit) => r = res) (QW (dC, dI) cy A [(ax, .inr (5, [.int vxn, .ref axr, .ref axb, .ref axj, .int vxk, .ref axi, .ref axu, .long vxA, .long vxB, .long vxC, .long vxE])), (axr, .inl (cy, 8, .inl fxr)), (axb, .inl (cy, 8, .inl fxb)), (axj, .inl (cy, 6, .inl fxj))]) A) (([.ref ax, .int p0] : List Value).toArray) s 0 0 A) (F0 m 48 ls []) := by
          intro n
          induction n with
          | zero =>
            intro l1 l2 l3 rs H locs ls h
            rw [fX5_count_L48_0] at h
            cases h
          | succ n ih =>
            intro l1 l2 l3 rs H locs ls h hl hP hD hS K
            rw [fX5_count_L48_s] at h
            refine lv_iload_n hx hb dX5_count_48 rfl (lv_at hl 3 rfl) ?_
            refine lv_bipush (v := (6 : Int32)) hx hb dX5_count_49 (by decide) ?_
            refine lv_icmp_ge (tgt := 72) hx hb dX5_count_51 (by decide) (fun c5 => ?_) (fun c5 => ?_)
            · rw [if_pos c5] at h
              have h0 := Option.some.inj h
              subst h0
              exact K H locs ls (lv_sub hl [0, 1, 2, 3] rfl) hP hD hS
            · rw [if_neg c5] at h
              refine lv_iload_n hx hb dX5_count_54 rfl (lv_at hl 2 rfl) ?_
              refine lv_aload_n hx hb dX5_count_55 rfl (lv_at hl 0 rfl) ?_
              refine va_get (D := (dC, dI)) (ci := 5) (v := .ref axj) (C := RX5) (T := TX5) (N := 11) hx hb hts hin_X5 hown hK hP 0 rfl rfl 3 (by decide) (hf_20) (fun _ h9 => h9) rfl dX5_count_56 ?_
              refine lv_iload_n hx hb dX5_count_59 rfl (lv_at hl 3 rfl) ?_
              obtain ⟨hi, h⟩ := gin_some h
              refine va_iald hx hb hK hP 3 0 rfl rfl hi dX5_count_60 ?_
              obtain ⟨r4, hr4, h⟩ := bd_some h
              have hFc := va_free (wc := []) hD hS hA [] rfl
              refine va_calli (va_runS (As := [.int (fxj l3.toNatClampNeg)]) (rest := [.int l2]) ⟨hx, hb, hml, hown, hts⟩ (c_X5_ones l dC dI cy  H.size  (fxj l3.toNatClampNeg) r4 hr4) (va_cwS 1 hts gX5_count_X5_ones rfl rfl rfl (by decide +kernel) ⟨Nat.le_of_ble_eq_true rfl, Nat.le_of_ble_eq_true rfl⟩) ⟨PW_fb, PW_pre (hP.sub (ws' := []) [] rfl) hK (hD.sub [] (by decide) rfl) hN⟩ rfl rfl hl.1 rfl (lv_room (Nat.le_of_ble_eq_true rfl)) dX5_count_61 ⟨Nat.zero_le _, Nat.zero_le _⟩) hS (fun q _ h => hFc q h) hFc (fun rz u t H locs ht hvm hw hB hz1 hk1 hS => ?_)
              obtain ⟨hP, hD⟩ := jn (wr := [(ax, .inr (5, [.int vxn, .ref axr, .ref axb, .ref axj, .int vxk, .ref axi, .ref axu, .long vxA, .long vxB, .long vxC, .long vxE])), (axr, .inl (cy, 8, .inl fxr)), (axb, .inl (cy, 8, .inl fxb)), (axj, .inl (cy, 6, .inl fxj))]) (w1 := []) (ws' := [(ax, .inr (5, [.int vxn, .ref axr, .ref axb, .ref axj, .int vxk, .ref axi, .ref axu, .long vxA, .long vxB, .long vxC, .long vxE])), (axr, .inl (cy, 8, .inl fxr)), (axb, .inl (cy, 8, .inl fxb)), (axj, .inl (cy, 6, .inl fxj))]) hP hD [] [0, 1, 2, 3] rfl rfl (by decide) (by decide) hk1 hFc hB ht [0, 1, 2, 3] rfl (by decide) rfl
              replace hw := hw.symm
              subst hw
              clear hFc hB hk1 hz1 hvm
              refine lv_iadd hx hb dX5_count_64 ?_
              refine lv_istore_n (lv' := [(2, .int (l2 + r4)), (0, .ref ax), (1, .int l1), (3, .int l3)]) hx hb dX5_count_65 rfl hl (by decide) rfl (fun ls hl => ?_)
              refine lv_iinc (v := l3 + (1 : Int32)) (lv' := [(3, .int (l3 + (1 : Int32))), (2, .int (l2 + r4)), (0, .ref ax), (1, .int l1)]) hx hb dX5_count_66 hl (k := 3) rfl rfl (by decide) rfl (fun ls hl => ?_)
              refine lv_goto (tgt := 48) hx hb dX5_count_69 (by decide) ?_
              exact ih l1 (l2 + r4) (l3 + (1 : Int32)) rs H locs ls h (lv_sub hl [2, 3, 1, 0] rfl) hP hD hS K
        obtain ⟨q7, hq7, h⟩ := bd_some h
        refine L48_5 FU p0 (0 : Int32) (0 : Int32) q7 H locs ls hq7 (lv_sub hl [2, 3, 1, 0] rfl) hP hD hS (fun H locs ls hl hP hD hS => ?_)
        refine lv_iload_n hx hb dX5_count_72 rfl (lv_at hl 2 rfl) ?_
        refine lv_iconst (v := (2 : Int32)) hx hb dX5_count_73 (by decide) ?_
        refine lv_idiv hx hb dX5_count_74 (by decide) ?_
        have h0 := Option.some.inj h
        subst h0
        exact W.iret hx hb hr (fun t ht hW => ⟨⟨_, (), rfl, rfl, QW_mk hP hK hD ht hW⟩, hS.F ht⟩) hS.2.2 dX5_count_75
      · rw [if_neg c3] at h
        by_cases c8 : p0 = (3 : Int32)
        · rw [if_pos c8] at h
          have ec8 : (p0).toInt = 3 := by rw [c8]; rfl
          refine lv_tableIn (tgt := 76) hx hb dX5_count_3 (by rw [ec8]; decide) (by rw [ec8]; decide) (by rw [ec8]; rfl) (by decide) ?_
          refine lv_iconst (v := (0 : Int32)) hx hb dX5_count_76 (by decide) ?_
          refine lv_istore_n (lv' := [(3, .int (0 : Int32)), (2, .int (0 : Int32)), (0, .ref ax), (1, .int p0)]) hx hb dX5_count_77 rfl hl (by decide) rfl (fun ls hl => ?_)
          have L78_9 : ∀ (n : Nat) (l1 : Int32) (l2 : Int32) (l3 : Int32) (rs : (Int32 × Int32)) (H : Heap) (locs : List Loc) (ls : Array Slot), fX5_count_L78 n l2 l3 fxb = some rs → lv_has ls 4 [(0, .ref ax), (1, .int l1), (2, .int l2), (3, .int l3)] → va_P (dC, dI) vwCl [(ax, .inr (5, [.int vxn, .ref axr, .ref axb, .ref axj, .int vxk, .ref axi, .ref axu, .long vxA, .long vxB, .long vxC, .long vxE])), (axr, .inl (cy, 8, .inl fxr)), (axb, .inl (cy, 8, .inl fxb)), (axj, .inl (cy, 6, .inl fxj))] H → va_D A [(ax, .inr (5, [.int vxn, .ref axr, .ref axb, .ref axj, .int vxk, .ref axi, .ref axu, .long vxA, .long vxB, .long vxC, .long vxE])), (axr, .inl (cy, 8, .inl fxr)), (axb, .inl (cy, 8, .inl fxb)), (axj, .inl (cy, 6, .inl fxj))] → va_S A s.heap H locs → (∀ (H : Heap) (locs : List Loc) (ls : Array Slot), lv_has ls 4 [(0, .ref ax), (1, .int l1), (2, .int rs.1), (3, .int rs.2)] → va_P (dC, dI) vwCl [(ax, .inr (5, [.int vxn, .ref axr, .ref axb, .ref axj, .int vxk, .ref axi, .ref axu, .long vxA, .long vxB, .long vxC, .long vxE])), (axr, .inl (cy, 8, .inl fxr)), (axb, .inl (cy, 8, .inl fxb)), (axj, .inl (cy, 6, .inl fxj))] H → va_D A [(ax, .inr (5, [.int vxn, .ref axr, .ref axb, .ref axj, .int vxk, .ref axi, .ref axu, .long vxA, .long vxB, .long vxC, .long vxE])), (axr, .inl (cy, 8, .inl fxr)), (axb, .inl (cy, 8, .inl fxb)), (axj, .inl (cy, 6, .inl fxj))] → va_S A s.heap H locs → W p l e (headSpec wsX5_count ({ frames := 1, cells := 0, slots := 0, locals := 22 })).room s m (([.ref ax, .int p0] : List Value).toArray) below meth c H locs 0 0 (MQ below (va_Qi (fun (r : Int32) (_ : Unit) => r = res) (QW (dC, dI) cy A [(ax, .inr (5, [.int vxn, .ref axr, .ref axb, .ref axj, .int vxk, .ref axi, .ref axu, .long vxA, .long vxB, .long vxC, .long vxE])), (axr, .inl (cy, 8, .inl fxr)), (axb, .inl (cy, 8, .inl fxb)), (axj, .inl (cy, 6, .inl fxj))]) A) (([.ref ax, .int p0] : List Value).toArray) s 0 0 A) (F0 m 99 ls [])) → W p l e (headSpec wsX5_count ({ frames := 1, cells := 0, slots := 0, locals := 22 })).room s m (([.ref ax, .int p0] : List Value).toArray) below meth c H locs 0 0 (MQ below (va_Qi (fun (r : Int32) (_ : Unit) => r = res) (QW (dC, dI) cy A [(ax, .inr (5, [.int vxn, .ref axr, .ref axb, .ref axj, .int vxk, .ref axi, .ref axu, .long vxA, .long vxB, .long vxC, .long vxE])), (axr, .inl (cy, 8, .inl fxr)), (axb, .inl (cy, 8, .inl fxb)), (axj, .inl (cy, 6, .inl fxj))]) A) (([.ref ax, .int p0] : List Value).toArray) s 0 0 A) (F0 m 78 ls []) := by
            intro n
            induction n with
            | zero =>
              intro l1 l2 l3 rs H locs ls h
              rw [fX5_count_L78_0] at h
              cases h
            | succ n ih =>
              intro l1 l2 l3 rs H locs ls h hl hP hD hS K
              rw [fX5_count_L78_s] at h
              refine lv_iload_n hx hb dX5_count_78 rfl (lv_at hl 3 rfl) ?_
              refine lv_bipush (v := (8 : Int32)) hx hb dX5_count_79 (by decide) ?_
              refine lv_icmp_ge (tgt := 99) hx hb dX5_count_81 (by decide) (fun c9 => ?_) (fun c9 => ?_)
              · rw [if_pos c9] at h
                have h0 := Option.some.inj h
                subst h0
                exact K H locs ls (lv_sub hl [0, 1, 2, 3] rfl) hP hD hS
              · rw [if_neg c9] at h
                refine lv_iload_n hx hb dX5_count_84 rfl (lv_at hl 2 rfl) ?_
                refine lv_aload_n hx hb dX5_count_85 rfl (lv_at hl 0 rfl) ?_
                refine va_get (D := (dC, dI)) (ci := 5) (v := .ref axb) (C := RX5) (T := TX5) (N := 11) hx hb hts hin_X5 hown hK hP 0 rfl rfl 2 (by decide) (hf_17) (fun _ h9 => h9) rfl dX5_count_86 ?_
                refine lv_iload_n hx hb dX5_count_89 rfl (lv_at hl 3 rfl) ?_
                obtain ⟨hi, h⟩ := gin_some h
                refine va_iald hx hb hK hP 2 0 rfl rfl hi dX5_count_90 ?_
                refine lv_iadd hx hb dX5_count_91 ?_
                refine lv_istore_n (lv' := [(2, .int (l2 + (fxb l3.toNatClampNeg))), (0, .ref ax), (1, .int l1), (3, .int l3)]) hx hb dX5_count_92 rfl hl (by decide) rfl (fun ls hl => ?_)
                refine lv_iinc (v := l3 + (1 : Int32)) (lv' := [(3, .int (l3 + (1 : Int32))), (2, .int (l2 + (fxb l3.toNatClampNeg))), (0, .ref ax), (1, .int l1)]) hx hb dX5_count_93 hl (k := 3) rfl rfl (by decide) rfl (fun ls hl => ?_)
                refine lv_goto (tgt := 78) hx hb dX5_count_96 (by decide) ?_
                exact ih l1 (l2 + (fxb l3.toNatClampNeg)) (l3 + (1 : Int32)) rs H locs ls h (lv_sub hl [2, 3, 1, 0] rfl) hP hD hS K
          obtain ⟨q11, hq11, h⟩ := bd_some h
          refine L78_9 FU p0 (0 : Int32) (0 : Int32) q11 H locs ls hq11 (lv_sub hl [2, 3, 1, 0] rfl) hP hD hS (fun H locs ls hl hP hD hS => ?_)
          refine lv_iload_n hx hb dX5_count_99 rfl (lv_at hl 2 rfl) ?_
          have h0 := Option.some.inj h
          subst h0
          exact W.iret hx hb hr (fun t ht hW => ⟨⟨_, (), rfl, rfl, QW_mk hP hK hD ht hW⟩, hS.F ht⟩) hS.2.2 dX5_count_100
        · rw [if_neg c8] at h
          by_cases c12 : p0 = (4 : Int32)
          · rw [if_pos c12] at h
            have ec12 : (p0).toInt = 4 := by rw [c12]; rfl
            refine lv_tableIn (tgt := 101) hx hb dX5_count_3 (by rw [ec12]; decide) (by rw [ec12]; decide) (by rw [ec12]; rfl) (by decide) ?_
            refine lv_iconst (v := (0 : Int32)) hx hb dX5_count_101 (by decide) ?_
            refine lv_istore_n (lv' := [(3, .int (0 : Int32)), (2, .int (0 : Int32)), (0, .ref ax), (1, .int p0)]) hx hb dX5_count_102 rfl hl (by decide) rfl (fun ls hl => ?_)
            have L103_13 : ∀ (n : Nat) (l1 : Int32) (l2 : Int32) (l3 : Int32) (rs : (Int32 × Int32)) (H : Heap) (locs : List Loc) (ls : Array Slot), fX5_count_L103 n l2 l3 vxn fxr = some rs → lv_has ls 4 [(0, .ref ax), (1, .int l1), (2, .int l2), (3, .int l3)] → va_P (dC, dI) vwCl [(ax, .inr (5, [.int vxn, .ref axr, .ref axb, .ref axj, .int vxk, .ref axi, .ref axu, .long vxA, .long vxB, .long vxC, .long vxE])), (axr, .inl (cy, 8, .inl fxr)), (axb, .inl (cy, 8, .inl fxb)), (axj, .inl (cy, 6, .inl fxj))] H → va_D A [(ax, .inr (5, [.int vxn, .ref axr, .ref axb, .ref axj, .int vxk, .ref axi, .ref axu, .long vxA, .long vxB, .long vxC, .long vxE])), (axr, .inl (cy, 8, .inl fxr)), (axb, .inl (cy, 8, .inl fxb)), (axj, .inl (cy, 6, .inl fxj))] → va_S A s.heap H locs → (∀ (H : Heap) (locs : List Loc) (ls : Array Slot), lv_has ls 4 [(0, .ref ax), (1, .int l1), (2, .int rs.1), (3, .int rs.2)] → va_P (dC, dI) vwCl [(ax, .inr (5, [.int vxn, .ref axr, .ref axb, .ref axj, .int vxk, .ref axi, .ref axu, .long vxA, .long vxB, .long vxC, .long vxE])), (axr, .inl (cy, 8, .inl fxr)), (axb, .inl (cy, 8, .inl fxb)), (axj, .inl (cy, 6, .inl fxj))] H → va_D A [(ax, .inr (5, [.int vxn, .ref axr, .ref axb, .ref axj, .int vxk, .ref axi, .ref axu, .long vxA, .long vxB, .long vxC, .long vxE])), (axr, .inl (cy, 8, .inl fxr)), (axb, .inl (cy, 8, .inl fxb)), (axj, .inl (cy, 6, .inl fxj))] → va_S A s.heap H locs → W p l e (headSpec wsX5_count ({ frames := 1, cells := 0, slots := 0, locals := 22 })).room s m (([.ref ax, .int p0] : List Value).toArray) below meth c H locs 0 0 (MQ below (va_Qi (fun (r : Int32) (_ : Unit) => r = res) (QW (dC, dI) cy A [(ax, .inr (5, [.int vxn, .ref axr, .ref axb, .ref axj, .int vxk, .ref axi, .ref axu, .long vxA, .long vxB, .long vxC, .long vxE])), (axr, .inl (cy, 8, .inl fxr)), (axb, .inl (cy, 8, .inl fxb)), (axj, .inl (cy, 6, .inl fxj))]) A) (([.ref ax, .int p0] : List Value).toArray) s 0 0 A) (F0 m 126 ls [])) → W p l e (headSpec wsX5_count ({ frames := 1, cells := 0, slots := 0, locals := 22 })).room s m (([.ref ax, .int p0] : List Value).toArray) below meth c H locs 0 0 (MQ below (va_Qi (fun (r : Int32) (_ : Unit) => r = res) (QW (dC, dI) cy A [(ax, .inr (5, [.int vxn, .ref axr, .ref axb, .ref axj, .int vxk, .ref axi, .ref axu, .long vxA, .long vxB, .long vxC, .long vxE])), (axr, .inl (cy, 8, .inl fxr)), (axb, .inl (cy, 8, .inl fxb)), (axj, .inl (cy, 6, .inl fxj))]) A) (([.ref ax, .int p0] : List Value).toArray) s 0 0 A) (F0 m 103 ls []) := by
              intro n
              induction n with
              | zero =>
                intro l1 l2 l3 rs H locs ls h
                rw [fX5_count_L103_0] at h
                cases h
              | succ n ih =>
                intro l1 l2 l3 rs H locs ls h hl hP hD hS K
                rw [fX5_count_L103_s] at h
                refine lv_iload_n hx hb dX5_count_103 rfl (lv_at hl 3 rfl) ?_
                refine lv_aload_n hx hb dX5_count_104 rfl (lv_at hl 0 rfl) ?_
                refine va_get (D := (dC, dI)) (ci := 5) (v := .int vxn) (C := RX5) (T := TX5) (N := 11) hx hb hts hin_X5 hown hK hP 0 rfl rfl 0 (by decide) (hf_7) (fun _ h9 => h9) rfl dX5_count_105 ?_
                refine lv_icmp_ge (tgt := 126) hx hb dX5_count_108 (by decide) (fun c13 => ?_) (fun c13 => ?_)
                · rw [if_pos c13] at h
                  have h0 := Option.some.inj h
                  subst h0
                  exact K H locs ls (lv_sub hl [0, 1, 2, 3] rfl) hP hD hS
                · rw [if_neg c13] at h
                  refine lv_iload_n hx hb dX5_count_111 rfl (lv_at hl 2 rfl) ?_
                  refine lv_aload_n hx hb dX5_count_112 rfl (lv_at hl 0 rfl) ?_
                  refine va_get (D := (dC, dI)) (ci := 5) (v := .ref axr) (C := RX5) (T := TX5) (N := 11) hx hb hts hin_X5 hown hK hP 0 rfl rfl 1 (by decide) (hf_13) (fun _ h9 => h9) rfl dX5_count_113 ?_
                  refine lv_iload_n hx hb dX5_count_116 rfl (lv_at hl 3 rfl) ?_
                  obtain ⟨hi, h⟩ := gin_some h
                  refine va_iald hx hb hK hP 1 0 rfl rfl hi dX5_count_117 ?_
                  refine lv_iadd hx hb dX5_count_118 ?_
                  refine lv_istore_n (lv' := [(2, .int (l2 + (fxr l3.toNatClampNeg))), (0, .ref ax), (1, .int l1), (3, .int l3)]) hx hb dX5_count_119 rfl hl (by decide) rfl (fun ls hl => ?_)
                  refine lv_iinc (v := l3 + (1 : Int32)) (lv' := [(3, .int (l3 + (1 : Int32))), (2, .int (l2 + (fxr l3.toNatClampNeg))), (0, .ref ax), (1, .int l1)]) hx hb dX5_count_120 hl (k := 3) rfl rfl (by decide) rfl (fun ls hl => ?_)
                  refine lv_goto (tgt := 103) hx hb dX5_count_123 (by decide) ?_
                  exact ih l1 (l2 + (fxr l3.toNatClampNeg)) (l3 + (1 : Int32)) rs H locs ls h (lv_sub hl [2, 3, 1, 0] rfl) hP hD hS K
            obtain ⟨q15, hq15, h⟩ := bd_some h
            refine L103_13 FU p0 (0 : Int32) (0 : Int32) q15 H locs ls hq15 (lv_sub hl [2, 3, 1, 0] rfl) hP hD hS (fun H locs ls hl hP hD hS => ?_)
            refine lv_iload_n hx hb dX5_count_126 rfl (lv_at hl 2 rfl) ?_
            have h0 := Option.some.inj h
            subst h0
            exact W.iret hx hb hr (fun t ht hW => ⟨⟨_, (), rfl, rfl, QW_mk hP hK hD ht hW⟩, hS.F ht⟩) hS.2.2 dX5_count_127
          · rw [if_neg c12] at h
            have hout := tb_out (x := p0) (n := 5) (by decide) (fun k hk => by rcases (show k = 0 ∨ k = 1 ∨ k = 2 ∨ k = 3 ∨ k = 4 by omega) with rfl | rfl | rfl | rfl | rfl; all_goals assumption)
            refine lv_tableOut (tgt := 128) hx hb dX5_count_3 hout (by decide) ?_
            refine lv_bipush (v := (-2 : Int32)) hx hb dX5_count_128 (by decide) ?_
            have h0 := Option.some.inj h
            subst h0
            exact W.iret hx hb hr (fun t ht hW => ⟨⟨_, (), rfl, rfl, QW_mk hP hK hD ht hW⟩, hS.F ht⟩) hS.2.2 dX5_count_130
