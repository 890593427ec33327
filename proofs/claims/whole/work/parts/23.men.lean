noncomputable def fX0_costWith (fxc : Nat → Int32) (fod : Nat → Int32) (p1 : Int32) (p2 : Int32) : Option (Int32) := gin p1 8 (bd (if (fod p1.toNatClampNeg) = p2 then (some (0 : Int32)) else (some (1 : Int32))) fun q1 => gin (((p1 + (1 : Int32)) * (4 : Int32)) + p2) 36 (some (q1 + (fxc (((p1 + (1 : Int32)) * (4 : Int32)) + p2).toNatClampNeg))))
set_option maxHeartbeats 4000000 in
set_option maxRecDepth 100000 in
theorem c_X0_costWith (l : Launch) (dC : Nat → ClassId) (dI : Nat → Nat → Nat) (cy : ClassId) (ax axn axg axc ao aod : Nat) (sz : Nat) (fxc : Nat → Int32) (vos : Int32) (fod : Nat → Int32) (p1 : Int32) (p2 : Int32) (res : Int32) (h : fX0_costWith fxc fod p1 p2 = some res) : Met l yX0_costWith wsX0_costWith ({ frames := 0, cells := 0, slots := 0, locals := 0 }) (va_Pc [.ref ax, .ref ao, .int p1, .int p2] (PW (dC, dI) cy sz [(ax, .inr (0, [.ref axn, .ref axg, .ref axc])), (axc, .inl (cy, 36, .inl fxc)), (ao, .inr (2, [.ref aod, .int vos])), (aod, .inl (cy, 8, .inl fod))])) (va_Qi (fun (r : Int32) (_ : Unit) => r = res) (QW (dC, dI) cy (va_A [(ax, .inr (0, [.ref axn, .ref axg, .ref axc])), (axc, .inl (cy, 36, .inl fxc)), (ao, .inr (2, [.ref aod, .int vos])), (aod, .inl (cy, 8, .inl fod))] sz) [(ax, .inr (0, [.ref axn, .ref axg, .ref axc])), (axc, .inl (cy, 36, .inl fxc)), (ao, .inr (2, [.ref aod, .int vos])), (aod, .inl (cy, 8, .inl fod))]) (va_A [(ax, .inr (0, [.ref axn, .ref axg, .ref axc])), (axc, .inl (cy, 36, .inl fxc)), (ao, .inr (2, [.ref aod, .int vos])), (aod, .inl (cy, 8, .inl fod))] sz)) 0 0 (va_A [(ax, .inr (0, [.ref axn, .ref axg, .ref axc])), (axc, .inl (cy, 36, .inl fxc)), (ao, .inr (2, [.ref aod, .int vos])), (aod, .inl (cy, 8, .inl fod))] sz) := by
  refine Met.ofW (cc := cX0_costWith) (maxL := 5) (ret := (some .int)) (by decide) rfl ?_
  intro p e s m args below meth c s₁ B hml hv
  obtain ⟨rfl, hsz, hP, hK, hD0, hN⟩ := hv
  have hx := B.exec
  have hb := B.bytes
  have hr := B.returns
  have hts := atoms_spec (ws := wsX0_costWith) B.pre
  have hown : s.vm.findClass RX0 = some m.cls := findClass_of_methodNamed B.named
  have hlocks := B.notSynchronized
  subst hsz
  have hD := hD0.self (sz := s.heap.size)
  clear hD0
  generalize hAe : va_A [(ax, .inr (0, [.ref axn, .ref axg, .ref axc])), (axc, .inl (cy, 36, .inl fxc)), (ao, .inr (2, [.ref aod, .int vos])), (aod, .inl (cy, 8, .inl fod))] s.heap.size = A at hD ⊢
  have hA : ∀ q : Nat, s.heap.size ≤ q → A q := fun q h => by rw [← hAe]; exact Or.inr h
  have hS : va_S A s.heap s.heap [] := va_S.rf
  have hl := lv_entry ([.ref ax, .ref ao, .int p1, .int p2]) (n := 5) (Nat.le_of_ble_eq_true rfl)
  rw [lg_entry_eq]
  generalize (lg_sl ([.ref ax, .ref ao, .int p1, .int p2]) ++ List.replicate (5 - (lg_sl ([.ref ax, .ref ao, .int p1, .int p2])).length) Slot.unset).toArray = ls at hl ⊢
  replace hl : lv_has ls 5 [(0, .ref ax), (1, .ref ao), (2, .int p1), (3, .int p2)] := hl
  replace hP : va_P (dC, dI) vwCl [(ax, .inr (0, [.ref axn, .ref axg, .ref axc])), (axc, .inl (cy, 36, .inl fxc)), (ao, .inr (2, [.ref aod, .int vos])), (aod, .inl (cy, 8, .inl fod))] s.heap := hP
  obtain ⟨locs, hlocs⟩ : ∃ lc : List Loc, lc = [] := ⟨_, rfl⟩
  rw [← hlocs] at hS ⊢
  obtain ⟨H, hH⟩ : ∃ H : Heap, H = s.heap := ⟨_, rfl⟩
  have hP2 := hP; rw [← hH] at hP2
  have hS2 : va_S A s.heap H locs := by rw [hH]; exact hS
  suffices hgo : W p l e (headSpec wsX0_costWith ({ frames := 0, cells := 0, slots := 0, locals := 0 })).room s m (([.ref ax, .ref ao, .int p1, .int p2] : List Value).toArray) below meth c H locs 0 0 (MQ below (va_Qi (fun (r : Int32) (_ : Unit) => r = res) (QW (dC, dI) cy A [(ax, .inr (0, [.ref axn, .ref axg, .ref axc])), (axc, .inl (cy, 36, .inl fxc)), (ao, .inr (2, [.ref aod, .int vos])), (aod, .inl (cy, 8, .inl fod))]) A) (([.ref ax, .ref ao, .int p1, .int p2] : List Value).toArray) s 0 0 A) (F0 m 0 ls []) by rw [hH] at hgo; exact hgo
  replace hP := hP2
  replace hS := hS2
  clear hP2 hS2
  have hin_X0 : ∀ w ∈ wsX00, w ∈ wsX0_costWith := by decide +kernel
  have hin_X2 : ∀ w ∈ wsX20, w ∈ wsX0_costWith := by decide +kernel
  have hf_21 := hts (.fieldLink RX0 21 "FewLooks$Mender" "costs" "[I") (by decide +kernel)
  unfold fX0_costWith at h
  refine lv_aload_n hx hb dX0_costWith_0 rfl (lv_at hl 1 rfl) ?_
  refine va_getN (D := (dC, dI)) (ci := 2) (v := .ref aod) (C := RX2) (T := TX2) (N := 2) hx hb hts hin_X2 hown hK hP 2 rfl rfl 0 (by decide) (va_Nw.use rfl (hN.2.2.2.2.2.1)) (fun _ h9 => h9) rfl dX0_costWith_1 ?_
  refine lv_iload_n hx hb dX0_costWith_4 rfl (lv_at hl 2 rfl) ?_
  obtain ⟨hi, h⟩ := gin_some h
  refine va_iald hx hb hK hP 3 0 rfl rfl hi dX0_costWith_5 ?_
  refine lv_iload_n hx hb dX0_costWith_6 rfl (lv_at hl 3 rfl) ?_
  obtain ⟨q1, hq1, h⟩ := bd_some h
  have Jq1 : ∀ (H : Heap) (locs : List Loc) (ls : Array Slot), lv_has ls 5 [(0, .ref ax), (1, .ref ao), (2, .int p1), (3, .int p2)] → va_P (dC, dI) vwCl [(ax, .inr (0, [.ref axn, .ref axg, .ref axc])), (axc, .inl (cy, 36, .inl fxc)), (ao, .inr (2, [.ref aod, .int vos])), (aod, .inl (cy, 8, .inl fod))] H → va_D A [(ax, .inr (0, [.ref axn, .ref axg, .ref axc])), (axc, .inl (cy, 36, .inl fxc)), (ao, .inr (2, [.ref aod, .int vos])), (aod, .inl (cy, 8, .inl fod))] → va_S A s.heap H locs → W p l e (headSpec wsX0_costWith ({ frames := 0, cells := 0, slots := 0, locals := 0 })).room s m (([.ref ax, .ref ao, .int p1, .int p2] : List Value).toArray) below meth c H locs 0 0 (MQ below (va_Qi (fun (r : Int32) (_ : Unit) => r = res) (QW (dC, dI) cy A [(ax, .inr (0, [.ref axn, .ref axg, .ref axc])), (axc, .inl (cy, 36, .inl fxc)), (ao, .inr (2, [.ref aod, .int vos])), (aod, .inl (cy, 8, .inl fod))]) A) (([.ref ax, .ref ao, .int p1, .int p2] : List Value).toArray) s 0 0 A) (F0 m 15 ls [.int q1]) := by
    intro H locs ls hl hP hD hS
    refine lv_istore (lv' := [(4, .int q1), (0, .ref ax), (1, .ref ao), (2, .int p1), (3, .int p2)]) hx hb dX0_costWith_15 hl (by decide) rfl (fun ls hl => ?_)
    refine lv_iload hx hb dX0_costWith_17 (lv_at hl 0 rfl) ?_
    refine lv_aload_n hx hb dX0_costWith_19 rfl (lv_at hl 1 rfl) ?_
    refine va_get (D := (dC, dI)) (ci := 0) (v := .ref axc) (C := RX0) (T := TX0) (N := 3) hx hb hts hin_X0 hown hK hP 0 rfl rfl 2 (by decide) (hf_21) (fun _ h9 => h9) rfl dX0_costWith_20 ?_
    refine lv_iload_n hx hb dX0_costWith_23 rfl (lv_at hl 3 rfl) ?_
    refine lv_iconst (v := (1 : Int32)) hx hb dX0_costWith_24 (by decide) ?_
    refine lv_iadd hx hb dX0_costWith_25 ?_
    refine lv_iconst (v := (4 : Int32)) hx hb dX0_costWith_26 (by decide) ?_
    refine lv_imul hx hb dX0_costWith_27 ?_
    refine lv_iload_n hx hb dX0_costWith_28 rfl (lv_at hl 4 rfl) ?_
    refine lv_iadd hx hb dX0_costWith_29 ?_
    obtain ⟨hi, h⟩ := gin_some h
    refine va_iald hx hb hK hP 1 0 rfl rfl hi dX0_costWith_30 ?_
    refine lv_iadd hx hb dX0_costWith_31 ?_
    have h0 := Option.some.inj h
    subst h0
    exact W.iret hx hb hr (fun t ht hW => ⟨⟨_, (), rfl, rfl, QW_mk hP hK hD ht hW⟩, hS.F ht⟩) hS.2.2 dX0_costWith_32
  replace h := hq1
  refine lv_icmp_ne (tgt := 14) hx hb dX0_costWith_7 (by decide) (fun c2 => ?_) (fun c2 => ?_)
  · rw [if_neg c2] at h
    refine lv_iconst (v := (1 : Int32)) hx hb dX0_costWith_14 (by decide) ?_
    have h0 := Option.some.inj h
    subst h0
    exact Jq1 H locs ls (lv_sub hl [0, 1, 2, 3] rfl) hP hD hS
  · rw [if_pos c2] at h
    refine lv_iconst (v := (0 : Int32)) hx hb dX0_costWith_10 (by decide) ?_
    refine lv_goto (tgt := 15) hx hb dX0_costWith_11 (by decide) ?_
    have h0 := Option.some.inj h
    subst h0
    exact Jq1 H locs ls (lv_sub hl [0, 1, 2, 3] rfl) hP hD hS

noncomputable def fX0_fillCosts_L2 (n : Nat) (l2 : Int32) (fxc : Nat → Int32) (vos : Int32) : Option (Int32 × (Nat → Int32)) := match n with
  | 0 => none
  | n + 1 => if (4 : Int32) ≤ l2 then (some (l2, fxc)) else (gin ((vos * (4 : Int32)) + l2) 36 (fX0_fillCosts_L2 n (l2 + (1 : Int32)) (upd fxc ((vos * (4 : Int32)) + l2).toNatClampNeg (0 : Int32)) vos))
theorem fX0_fillCosts_L2_0 (l2 : Int32) (fxc : Nat → Int32) (vos : Int32) : fX0_fillCosts_L2 0 l2 fxc vos = none := rfl
theorem fX0_fillCosts_L2_s (n : Nat) (l2 : Int32) (fxc : Nat → Int32) (vos : Int32) : fX0_fillCosts_L2 (n + 1) l2 fxc vos = if (4 : Int32) ≤ l2 then (some (l2, fxc)) else (gin ((vos * (4 : Int32)) + l2) 36 (fX0_fillCosts_L2 n (l2 + (1 : Int32)) (upd fxc ((vos * (4 : Int32)) + l2).toNatClampNeg (0 : Int32)) vos)) := rfl
noncomputable def fX0_fillCosts_L44 (n : Nat) (l2 : Int32) (l3 : Int32) (l4 : Int32) (fxc : Nat → Int32) (fod : Nat → Int32) : Option (Int32 × Int32 × (Nat → Int32)) := match n with
  | 0 => none
  | n + 1 => if l4 < 0 then (some (l3, l4, fxc)) else (bd (fX0_costWith fxc fod l2 l4) fun r4 => gin ((l2 * (4 : Int32)) + l4) 36 (fX0_fillCosts_L44 n l2 (if r4 < l3 then r4 else l3) (l4 + (-1 : Int32)) (upd fxc ((l2 * (4 : Int32)) + l4).toNatClampNeg (if r4 < l3 then r4 else l3)) fod))
theorem fX0_fillCosts_L44_0 (l2 : Int32) (l3 : Int32) (l4 : Int32) (fxc : Nat → Int32) (fod : Nat → Int32) : fX0_fillCosts_L44 0 l2 l3 l4 fxc fod = none := rfl
theorem fX0_fillCosts_L44_s (n : Nat) (l2 : Int32) (l3 : Int32) (l4 : Int32) (fxc : Nat → Int32) (fod : Nat → Int32) : fX0_fillCosts_L44 (n + 1) l2 l3 l4 fxc fod = if l4 < 0 then (some (l3, l4, fxc)) else (bd (fX0_costWith fxc fod l2 l4) fun r4 => gin ((l2 * (4 : Int32)) + l4) 36 (fX0_fillCosts_L44 n l2 (if r4 < l3 then r4 else l3) (l4 + (-1 : Int32)) (upd fxc ((l2 * (4 : Int32)) + l4).toNatClampNeg (if r4 < l3 then r4 else l3)) fod)) := rfl
noncomputable def fX0_fillCosts_L34 (n : Nat) (l2 : Int32) (fxc : Nat → Int32) (fod : Nat → Int32) : Option (Int32 × (Nat → Int32)) := match n with
  | 0 => none
  | n + 1 => if l2 < 0 then (some (l2, fxc)) else (bd (fX0_fillCosts_L44 FU l2 (8 : Int32) (3 : Int32) fxc fod) fun q7 => fX0_fillCosts_L34 n (l2 + (-1 : Int32)) q7.2.2 fod)
theorem fX0_fillCosts_L34_0 (l2 : Int32) (fxc : Nat → Int32) (fod : Nat → Int32) : fX0_fillCosts_L34 0 l2 fxc fod = none := rfl
theorem fX0_fillCosts_L34_s (n : Nat) (l2 : Int32) (fxc : Nat → Int32) (fod : Nat → Int32) : fX0_fillCosts_L34 (n + 1) l2 fxc fod = if l2 < 0 then (some (l2, fxc)) else (bd (fX0_fillCosts_L44 FU l2 (8 : Int32) (3 : Int32) fxc fod) fun q7 => fX0_fillCosts_L34 n (l2 + (-1 : Int32)) q7.2.2 fod) := rfl
noncomputable def fX0_fillCosts (fxc : Nat → Int32) (vos : Int32) (fod : Nat → Int32)  : Option ((Nat → Int32)) := bd (fX0_fillCosts_L2 FU (0 : Int32) fxc vos) fun q3 => bd (fX0_fillCosts_L34 FU (vos - (1 : Int32)) q3.2 fod) fun q10 => some q10.2
set_option maxHeartbeats 4000000 in
set_option maxRecDepth 100000 in
theorem c_X0_fillCosts (l : Launch) (dC : Nat → ClassId) (dI : Nat → Nat → Nat) (cy : ClassId) (ax axn axg axc ao aod : Nat) (sz : Nat) (fxc : Nat → Int32) (vos : Int32) (fod : Nat → Int32)  (res : (Nat → Int32)) (h : fX0_fillCosts fxc vos fod = some res) : Met l yX0_fillCosts wsX0_fillCosts ({ frames := 1, cells := 0, slots := 0, locals := 24 }) (va_Pc [.ref ax, .ref ao] (PW (dC, dI) cy sz [(ax, .inr (0, [.ref axn, .ref axg, .ref axc])), (axc, .inl (cy, 36, .inl fxc)), (ao, .inr (2, [.ref aod, .int vos])), (aod, .inl (cy, 8, .inl fod))])) (va_Qv (fun (_ : Unit) => True) (QW (dC, dI) cy (va_A [(ax, .inr (0, [.ref axn, .ref axg, .ref axc])), (axc, .inl (cy, 36, .inl fxc)), (ao, .inr (2, [.ref aod, .int vos])), (aod, .inl (cy, 8, .inl fod))] sz) [(ax, .inr (0, [.ref axn, .ref axg, .ref axc])), (axc, .inl (cy, 36, .inl res)), (ao, .inr (2, [.ref aod, .int vos])), (aod, .inl (cy, 8, .inl fod))]) (va_A [(ax, .inr (0, [.ref axn, .ref axg, .ref axc])), (axc, .inl (cy, 36, .inl fxc)), (ao, .inr (2, [.ref aod, .int vos])), (aod, .inl (cy, 8, .inl fod))] sz)) 0 0 (va_A [(ax, .inr (0, [.ref axn, .ref axg, .ref axc])), (axc, .inl (cy, 36, .inl fxc)), (ao, .inr (2, [.ref aod, .int vos])), (aod, .inl (cy, 8, .inl fod))] sz) := by
  refine Met.ofW (cc := cX0_fillCosts) (maxL := 5) (ret := none) (by decide) rfl ?_
  intro p e s m args below meth c s₁ B hml hv
  obtain ⟨rfl, hsz, hP, hK, hD0, hN⟩ := hv
  have hx := B.exec
  have hb := B.bytes
  have hr := B.returns
  have hts := atoms_spec (ws := wsX0_fillCosts) B.pre
  have hown : s.vm.findClass RX0 = some m.cls := findClass_of_methodNamed B.named
  have hlocks := B.notSynchronized
  subst hsz
  have hD := hD0.self (sz := s.heap.size)
  clear hD0
  generalize hAe : va_A [(ax, .inr (0, [.ref axn, .ref axg, .ref axc])), (axc, .inl (cy, 36, .inl fxc)), (ao, .inr (2, [.ref aod, .int vos])), (aod, .inl (cy, 8, .inl fod))] s.heap.size = A at hD ⊢
  have hA : ∀ q : Nat, s.heap.size ≤ q → A q := fun q h => by rw [← hAe]; exact Or.inr h
  have hS : va_S A s.heap s.heap [] := va_S.rf
  have hl := lv_entry ([.ref ax, .ref ao]) (n := 5) (Nat.le_of_ble_eq_true rfl)
  rw [lg_entry_eq]
  generalize (lg_sl ([.ref ax, .ref ao]) ++ List.replicate (5 - (lg_sl ([.ref ax, .ref ao])).length) Slot.unset).toArray = ls at hl ⊢
  replace hl : lv_has ls 5 [(0, .ref ax), (1, .ref ao)] := hl
  replace hP : va_P (dC, dI) vwCl [(ax, .inr (0, [.ref axn, .ref axg, .ref axc])), (axc, .inl (cy, 36, .inl fxc)), (ao, .inr (2, [.ref aod, .int vos])), (aod, .inl (cy, 8, .inl fod))] s.heap := hP
  obtain ⟨locs, hlocs⟩ : ∃ lc : List Loc, lc = [] := ⟨_, rfl⟩
  rw [← hlocs] at hS ⊢
  obtain ⟨H, hH⟩ : ∃ H : Heap, H = s.heap := ⟨_, rfl⟩
  have hP2 := hP; rw [← hH] at hP2
  have hS2 : va_S A s.heap H locs := by rw [hH]; exact hS
  suffices hgo : W p l e (headSpec wsX0_fillCosts ({ frames := 1, cells := 0, slots := 0, locals := 24 })).room s m (([.ref ax, .ref ao] : List Value).toArray) below meth c H locs 0 0 (MQ below (va_Qv (fun (_ : Unit) => True) (QW (dC, dI) cy A [(ax, .inr (0, [.ref axn, .ref axg, .ref axc])), (axc, .inl (cy, 36, .inl res)), (ao, .inr (2, [.ref aod, .int vos])), (aod, .inl (cy, 8, .inl fod))]) A) (([.ref ax, .ref ao] : List Value).toArray) s 0 0 A) (F0 m 0 ls []) by rw [hH] at hgo; exact hgo
  replace hP := hP2
  replace hS := hS2
  clear hP2 hS2
  have hin_X0 : ∀ w ∈ wsX00, w ∈ wsX0_fillCosts := by decide +kernel
  have hin_X2 : ∀ w ∈ wsX20, w ∈ wsX0_fillCosts := by decide +kernel
  have hf_21 := hts (.fieldLink RX0 21 "FewLooks$Mender" "costs" "[I") (by decide +kernel)
  unfold fX0_fillCosts at h
  refine lv_iconst (v := (0 : Int32)) hx hb dX0_fillCosts_0 (by decide) ?_
  refine lv_istore_n (lv' := [(2, .int (0 : Int32)), (0, .ref ax), (1, .ref ao)]) hx hb dX0_fillCosts_1 rfl hl (by decide) rfl (fun ls hl => ?_)
  have L2_1 : ∀ (n : Nat) (l2 : Int32) (fxc : Nat → Int32) (rs : (Int32 × (Nat → Int32))) (H : Heap) (locs : List Loc) (ls : Array Slot), fX0_fillCosts_L2 n l2 fxc vos = some rs → lv_has ls 5 [(0, .ref ax), (1, .ref ao), (2, .int l2)] → va_P (dC, dI) vwCl [(ax, .inr (0, [.ref axn, .ref axg, .ref axc])), (axc, .inl (cy, 36, .inl fxc)), (ao, .inr (2, [.ref aod, .int vos])), (aod, .inl (cy, 8, .inl fod))] H → va_D A [(ax, .inr (0, [.ref axn, .ref axg, .ref axc])), (axc, .inl (cy, 36, .inl fxc)), (ao, .inr (2, [.ref aod, .int vos])), (aod, .inl (cy, 8, .inl fod))] → va_S A s.heap H locs → (∀ (H : Heap) (locs : List Loc) (ls : Array Slot), lv_has ls 5 [(0, .ref ax), (1, .ref ao), (2, .int rs.1)] → va_P (dC, dI) vwCl [(ax, .inr (0, [.ref axn, .ref axg, .ref axc])), (axc, .inl (cy, 36, .inl rs.2)), (ao, .inr (2, [.ref aod, .int vos])), (aod, .inl (cy, 8, .inl fod))] H → va_D A [(ax, .inr (0, [.ref axn, .ref axg, .ref axc])), (axc, .inl (cy, 36, .inl rs.2)), (ao, .inr (2, [.ref aod, .int vos])), (aod, .inl (cy, 8, .inl fod))] → va_S A s.heap H locs → W p l e (headSpec wsX0_fillCosts ({ frames := 1, cells := 0, slots := 0, locals := 24 })).room s m (([.ref ax, .ref ao] : List Value).toArray) below meth c H locs 0 0 (MQ below (va_Qv (fun (_ : Unit) => True) (QW (dC, dI) cy A [(ax, .inr (0, [.ref axn, .ref axg, .ref axc])), (axc, .inl (cy, 36, .inl res)), (ao, .inr (2, [.ref aod, .int vos])), (aod, .inl (cy, 8, .inl fod))]) A) (([.ref ax, .ref ao] : List Value).toArray) s 0 0 A) (F0 m 27 ls [])) → W p l e (headSpec wsX0_fillCosts ({ frames := 1, cells := 0, slots := 0, locals := 24 })).room s m (([.ref ax, .ref ao] : List Value).toArray) below meth c H locs 0 0 (MQ below (va_Qv (fun (_ : Unit) => True) (QW (dC, dI) cy A [(ax, .inr (0, [.ref axn, .ref axg, .ref axc])), (axc, .inl (cy, 36, .inl res)), (ao, .inr (2, [.ref aod, .int vos])), (aod, .inl (cy, 8, .inl fod))]) A) (([.ref ax, .ref ao] : List Value).toArray) s 0 0 A) (F0 m 2 ls []) := by
    intro n
    induction n with
    | zero =>
      intro l2 fxc rs H locs ls h
      rw [fX0_fillCosts_L2_0] at h
      cases h
    | succ n ih =>
      intro l2 fxc rs H locs ls h hl hP hD hS K
      rw [fX0_fillCosts_L2_s] at h
      refine lv_iload_n hx hb dX0_fillCosts_2 rfl (lv_at hl 2 rfl) ?_
      refine lv_iconst (v := (4 : Int32)) hx hb dX0_fillCosts_3 (by decide) ?_
      refine lv_icmp_ge (tgt := 27) hx hb dX0_fillCosts_4 (by decide) (fun c1 => ?_) (fun c1 => ?_)
      · rw [if_pos c1] at h
        have h0 := Option.some.inj h
        subst h0
        exact K H locs ls (lv_sub hl [0, 1, 2] rfl) hP hD hS
      · rw [if_neg c1] at h
        refine lv_aload_n hx hb dX0_fillCosts_7 rfl (lv_at hl 0 rfl) ?_
        refine va_get (D := (dC, dI)) (ci := 0) (v := .ref axc) (C := RX0) (T := TX0) (N := 3) hx hb hts hin_X0 hown hK hP 0 rfl rfl 2 (by decide) (hf_21) (fun _ h9 => h9) rfl dX0_fillCosts_8 ?_
        refine lv_aload_n hx hb dX0_fillCosts_11 rfl (lv_at hl 1 rfl) ?_
        refine va_getN (D := (dC, dI)) (ci := 2) (v := .int vos) (C := RX2) (T := TX2) (N := 2) hx hb hts hin_X2 hown hK hP 2 rfl rfl 1 (by decide) (va_Nw.use rfl (hN.2.2.2.2.1)) (fun _ h9 => h9) rfl dX0_fillCosts_12 ?_
        refine lv_iconst (v := (4 : Int32)) hx hb dX0_fillCosts_15 (by decide) ?_
        refine lv_imul hx hb dX0_fillCosts_16 ?_
        refine lv_iload_n hx hb dX0_fillCosts_17 rfl (lv_at hl 2 rfl) ?_
        refine lv_iadd hx hb dX0_fillCosts_18 ?_
        refine lv_iconst (v := (0 : Int32)) hx hb dX0_fillCosts_19 (by decide) ?_
        obtain ⟨hi, h⟩ := gin_some h
        refine va_iast hx hb hK hP hD hS 1 0 rfl rfl hi dX0_fillCosts_20 (fun H locs hP hD hS => ?_)
        replace hP : va_P (dC, dI) vwCl [(ax, .inr (0, [.ref axn, .ref axg, .ref axc])), (axc, .inl (cy, 36, .inl (upd fxc ((vos * (4 : Int32)) + l2).toNatClampNeg (0 : Int32)))), (ao, .inr (2, [.ref aod, .int vos])), (aod, .inl (cy, 8, .inl fod))] H := hP
        replace hD : va_D A [(ax, .inr (0, [.ref axn, .ref axg, .ref axc])), (axc, .inl (cy, 36, .inl (upd fxc ((vos * (4 : Int32)) + l2).toNatClampNeg (0 : Int32)))), (ao, .inr (2, [.ref aod, .int vos])), (aod, .inl (cy, 8, .inl fod))] := hD
        refine lv_iinc (v := l2 + (1 : Int32)) (lv' := [(2, .int (l2 + (1 : Int32))), (0, .ref ax), (1, .ref ao)]) hx hb dX0_fillCosts_21 hl (k := 2) rfl rfl (by decide) rfl (fun ls hl => ?_)
        refine lv_goto (tgt := 2) hx hb dX0_fillCosts_24 (by decide) ?_
        exact ih (l2 + (1 : Int32)) (upd fxc ((vos * (4 : Int32)) + l2).toNatClampNeg (0 : Int32)) rs H locs ls h (lv_sub hl [1, 2, 0] rfl) hP hD hS K
  obtain ⟨q3, hq3, h⟩ := bd_some h
  refine L2_1 FU (0 : Int32) fxc q3 H locs ls hq3 (lv_sub hl [1, 2, 0] rfl) hP hD hS (fun H locs ls hl hP hD hS => ?_)
  refine lv_aload_n hx hb dX0_fillCosts_27 rfl (lv_at hl 1 rfl) ?_
  refine va_getN (D := (dC, dI)) (ci := 2) (v := .int vos) (C := RX2) (T := TX2) (N := 2) hx hb hts hin_X2 hown hK hP 2 rfl rfl 1 (by decide) (va_Nw.use rfl (hN.2.2.2.2.1)) (fun _ h9 => h9) rfl dX0_fillCosts_28 ?_
  refine lv_iconst (v := (1 : Int32)) hx hb dX0_fillCosts_31 (by decide) ?_
  refine lv_isub hx hb dX0_fillCosts_32 ?_
  refine lv_istore_n (lv' := [(2, .int (vos - (1 : Int32))), (0, .ref ax), (1, .ref ao)]) hx hb dX0_fillCosts_33 rfl hl (by decide) rfl (fun ls hl => ?_)
  have L34_8 : ∀ (n : Nat) (l2 : Int32) (fxc : Nat → Int32) (rs : (Int32 × (Nat → Int32))) (H : Heap) (locs : List Loc) (ls : Array Slot), fX0_fillCosts_L34 n l2 fxc fod = some rs → lv_has ls 5 [(0, .ref ax), (1, .ref ao), (2, .int l2)] → va_P (dC, dI) vwCl [(ax, .inr (0, [.ref axn, .ref axg, .ref axc])), (axc, .inl (cy, 36, .inl fxc)), (ao, .inr (2, [.ref aod, .int vos])), (aod, .inl (cy, 8, .inl fod))] H → va_D A [(ax, .inr (0, [.ref axn, .ref axg, .ref axc])), (axc, .inl (cy, 36, .inl fxc)), (ao, .inr (2, [.ref aod, .int vos])), (aod, .inl (cy, 8, .inl fod))] → va_S A s.heap H locs → (∀ (H : Heap) (locs : List Loc) (ls : Array Slot), lv_has ls 5 [(0, .ref ax), (1, .ref ao), (2, .int rs.1)] → va_P (dC, dI) vwCl [(ax, .inr (0, [.ref axn, .ref axg, .ref axc])), (axc, .inl (cy, 36, .inl rs.2)), (ao, .inr (2, [.ref aod, .int vos])), (aod, .inl (cy, 8, .inl fod))] H → va_D A [(ax, .inr (0, [.ref axn, .ref axg, .ref axc])), (axc, .inl (cy, 36, .inl rs.2)), (ao, .inr (2, [.ref aod, .int vos])), (aod, .inl (cy, 8, .inl fod))] → va_S A s.heap H locs → W p l e (headSpec wsX0_fillCosts ({ frames := 1, cells := 0, slots := 0, locals := 24 })).room s m (([.ref ax, .ref ao] : List Value).toArray) below meth c H locs 0 0 (MQ below (va_Qv (fun (_ : Unit) => True) (QW (dC, dI) cy A [(ax, .inr (0, [.ref axn, .ref axg, .ref axc])), (axc, .inl (cy, 36, .inl res)), (ao, .inr (2, [.ref aod, .int vos])), (aod, .inl (cy, 8, .inl fod))]) A) (([.ref ax, .ref ao] : List Value).toArray) s 0 0 A) (F0 m 86 ls [])) → W p l e (headSpec wsX0_fillCosts ({ frames := 1, cells := 0, slots := 0, locals := 24 })).room s m (([.ref ax, .ref ao] : List Value).toArray) below meth c H locs 0 0 (MQ below (va_Qv (fun (_ : Unit) => True) (QW (dC, dI) cy A [(ax, .inr (0, [.ref axn, .ref axg, .ref axc])), (axc, .inl (cy, 36, .inl res)), (ao, .inr (2, [.ref aod, .int vos])), (aod, .inl (cy, 8, .inl fod))]) A) (([.ref ax, .ref ao] : List Value).toArray) s 0 0 A) (F0 m 34 ls []) := by
    intro n
    induction n with
    | zero =>
      intro l2 fxc rs H locs ls h
      rw [fX0_fillCosts_L34_0] at h
      cases h
    | succ n ih =>
      intro l2 fxc rs H locs ls h hl hP hD hS K
      rw [fX0_fillCosts_L34_s] at h
      refine lv_iload_n hx hb dX0_fillCosts_34 rfl (lv_at hl 2 rfl) ?_
      refine lv_if_lt (tgt := 86) hx hb dX0_fillCosts_35 (by decide) (fun c8 => ?_) (fun c8 => ?_)
      · rw [if_pos c8] at h
        have h0 := Option.some.inj h
        subst h0
        exact K H locs ls (lv_sub hl [0, 1, 2] rfl) hP hD hS
      · rw [if_neg c8] at h
        refine lv_bipush (v := (8 : Int32)) hx hb dX0_fillCosts_38 (by decide) ?_
        refine lv_istore_n (lv' := [(3, .int (8 : Int32)), (0, .ref ax), (1, .ref ao), (2, .int l2)]) hx hb dX0_fillCosts_40 rfl hl (by decide) rfl (fun ls hl => ?_)
        refine lv_iconst (v := (3 : Int32)) hx hb dX0_fillCosts_41 (by decide) ?_
        refine lv_istore (lv' := [(4, .int (3 : Int32)), (3, .int (8 : Int32)), (0, .ref ax), (1, .ref ao), (2, .int l2)]) hx hb dX0_fillCosts_42 hl (by decide) rfl (fun ls hl => ?_)
        have L44_5 : ∀ (n : Nat) (l2 : Int32) (l3 : Int32) (l4 : Int32) (fxc : Nat → Int32) (rs : (Int32 × Int32 × (Nat → Int32))) (H : Heap) (locs : List Loc) (ls : Array Slot), fX0_fillCosts_L44 n l2 l3 l4 fxc fod = some rs → lv_has ls 5 [(0, .ref ax), (1, .ref ao), (2, .int l2), (3, .int l3), (4, .int l4)] → va_P (dC, dI) vwCl [(ax, .inr (0, [.ref axn, .ref axg, .ref axc])), (axc, .inl (cy, 36, .inl fxc)), (ao, .inr (2, [.ref aod, .int vos])), (aod, .inl (cy, 8, .inl fod))] H → va_D A [(ax, .inr (0, [.ref axn, .ref axg, .ref axc])), (axc, .inl (cy, 36, .inl fxc)), (ao, .inr (2, [.ref aod, .int vos])), (aod, .inl (cy, 8, .inl fod))] → va_S A s.heap H locs → (∀ (H : Heap) (locs : List Loc) (ls : Array Slot), lv_has ls 5 [(0, .ref ax), (1, .ref ao), (2, .int l2), (3, .int rs.1), (4, .int rs.2.1)] → va_P (dC, dI) vwCl [(ax, .inr (0, [.ref axn, .ref axg, .ref axc])), (axc, .inl (cy, 36, .inl rs.2.2)), (ao, .inr (2, [.ref aod, .int vos])), (aod, .inl (cy, 8, .inl fod))] H → va_D A [(ax, .inr (0, [.ref axn, .ref axg, .ref axc])), (axc, .inl (cy, 36, .inl rs.2.2)), (ao, .inr (2, [.ref aod, .int vos])), (aod, .inl (cy, 8, .inl fod))] → va_S A s.heap H locs → W p l e (headSpec wsX0_fillCosts ({ frames := 1, cells := 0, slots := 0, locals := 24 })).room s m (([.ref ax, .ref ao] : List Value).toArray) below meth c H locs 0 0 (MQ below (va_Qv (fun (_ : Unit) => True) (QW (dC, dI) cy A [(ax, .inr (0, [.ref axn, .ref axg, .ref axc])), (axc, .inl (cy, 36, .inl res)), (ao, .inr (2, [.ref aod, .int vos])), (aod, .inl (cy, 8, .inl fod))]) A) (([.ref ax, .ref ao] : List Value).toArray) s 0 0 A) (F0 m 80 ls [])) → W p l e (headSpec wsX0_fillCosts ({ frames := 1, cells := 0, slots := 0, locals := 24 })).room s m (([.ref ax, .ref ao] : List Value).toArray) below meth c H locs 0 0 (MQ below (va_Qv (fun (_ : Unit) => True) (QW (dC, dI) cy A [(ax, .inr (0, [.ref axn, .ref axg, .ref axc])), (axc, .inl (cy, 36, .inl res)), (ao, .inr (2, [.ref aod, .int vos])), (aod, .inl (cy, 8, .inl fod))]) A) (([.ref ax, .ref ao] : List Value).toArray) s 0 0 A) (F0 m 44 ls []) := by
          intro n
          induction n with
          | zero =>
            intro l2 l3 l4 fxc rs H locs ls h
            rw [fX0_fillCosts_L44_0] at h
            cases h
          | succ n ih =>
            intro l2 l3 l4 fxc rs H locs ls h hl hP hD hS K
            rw [fX0_fillCosts_L44_s] at h
            refine lv_iload hx hb dX0_fillCosts_44 (lv_at hl 4 rfl) ?_
            refine lv_if_lt (tgt := 80) hx hb dX0_fillCosts_46 (by decide) (fun c5 => ?_) (fun c5 => ?_)
            · rw [if_pos c5] at h
              have h0 := Option.some.inj h
              subst h0
              exact K H locs ls (lv_sub hl [0, 1, 2, 3, 4] rfl) hP hD hS
            · rw [if_neg c5] at h
              refine lv_iload_n hx hb dX0_fillCosts_49 rfl (lv_at hl 3 rfl) ?_
              refine lv_aload_n hx hb dX0_fillCosts_50 rfl (lv_at hl 0 rfl) ?_
              refine lv_aload_n hx hb dX0_fillCosts_51 rfl (lv_at hl 1 rfl) ?_
              refine lv_iload_n hx hb dX0_fillCosts_52 rfl (lv_at hl 2 rfl) ?_
              refine lv_iload hx hb dX0_fillCosts_53 (lv_at hl 4 rfl) ?_
              obtain ⟨r4, hr4, h⟩ := bd_some h
              have hFc := va_free (wc := [(ax, .inr (0, [.ref axn, .ref axg, .ref axc])), (axc, .inl (cy, 36, .inl fxc)), (ao, .inr (2, [.ref aod, .int vos])), (aod, .inl (cy, 8, .inl fod))]) hD hS hA [0, 1, 2, 3] rfl
              refine va_calli (va_runV (As := [.ref ao, .int l2, .int l4]) (rest := [.int l3]) ⟨hx, hb, hml, hown, hts⟩ (c_X0_costWith l dC dI cy ax axn axg axc ao aod H.size fxc vos fod l2 l4 r4 hr4) (cwV 3 hts gX0_fillCosts_X0_costWith rfl rfl rfl (by decide +kernel) ⟨Nat.le_of_ble_eq_true rfl, Nat.le_of_ble_eq_true rfl⟩) ⟨PW_fb, va_recv hK hP (ci := 0) (q0 := 0) rfl rfl, PW_pre (hP.sub (ws' := [(ax, .inr (0, [.ref axn, .ref axg, .ref axc])), (axc, .inl (cy, 36, .inl fxc)), (ao, .inr (2, [.ref aod, .int vos])), (aod, .inl (cy, 8, .inl fod))]) [0, 1, 2, 3] rfl) hK (hD.sub [0, 1, 2, 3] (by decide) rfl) hN⟩ rfl rfl hl.1 rfl (lv_room (Nat.le_of_ble_eq_true rfl)) dX0_fillCosts_55 ⟨Nat.zero_le _, Nat.zero_le _⟩) hS (fun q _ h => hFc q h) hFc (fun rz u t H locs ht hvm hw hB hz1 hk1 hS => ?_)
              obtain ⟨hP, hD⟩ := jn (wr := []) (w1 := [(ax, .inr (0, [.ref axn, .ref axg, .ref axc])), (axc, .inl (cy, 36, .inl fxc)), (ao, .inr (2, [.ref aod, .int vos])), (aod, .inl (cy, 8, .inl fod))]) (ws' := [(ax, .inr (0, [.ref axn, .ref axg, .ref axc])), (axc, .inl (cy, 36, .inl fxc)), (ao, .inr (2, [.ref aod, .int vos])), (aod, .inl (cy, 8, .inl fod))]) hP hD [0, 1, 2, 3] [] rfl rfl (by decide) (by decide) hk1 hFc hB ht [0, 1, 2, 3] rfl (by decide) rfl
              replace hw := hw.symm
              subst hw
              clear hFc hB hk1 hz1 hvm
              refine va_mmin hx hb (by rw [hml]; exact hl.1.symm) hown (hts (.methodLink RX0 59 Lib.Math.min.name) (by decide +kernel)) (hts (.static Lib.Math.min.name) (by decide +kernel)) (hts (.initialized "java/lang/Math") (by decide +kernel)) (hts (.code Lib.Math.min.name Lib.Math.min.code 2 (some .int)) (by decide +kernel)) (Nat.le_of_ble_eq_true rfl) (Nat.le_of_ble_eq_true rfl) (Nat.zero_le _) (Nat.zero_le _) dX0_fillCosts_58 ?_
              refine lv_istore_n (lv' := [(3, .int (if r4 < l3 then r4 else l3)), (0, .ref ax), (1, .ref ao), (2, .int l2), (4, .int l4)]) hx hb dX0_fillCosts_61 rfl hl (by decide) rfl (fun ls hl => ?_)
              refine lv_aload_n hx hb dX0_fillCosts_62 rfl (lv_at hl 1 rfl) ?_
              refine va_get (D := (dC, dI)) (ci := 0) (v := .ref axc) (C := RX0) (T := TX0) (N := 3) hx hb hts hin_X0 hown hK hP 0 rfl rfl 2 (by decide) (hf_21) (fun _ h9 => h9) rfl dX0_fillCosts_63 ?_
              refine lv_iload_n hx hb dX0_fillCosts_66 rfl (lv_at hl 3 rfl) ?_
              refine lv_iconst (v := (4 : Int32)) hx hb dX0_fillCosts_67 (by decide) ?_
              refine lv_imul hx hb dX0_fillCosts_68 ?_
              refine lv_iload hx hb dX0_fillCosts_69 (lv_at hl 4 rfl) ?_
              refine lv_iadd hx hb dX0_fillCosts_71 ?_
              refine lv_iload_n hx hb dX0_fillCosts_72 rfl (lv_at hl 0 rfl) ?_
              obtain ⟨hi, h⟩ := gin_some h
              refine va_iast hx hb hK hP hD hS 1 0 rfl rfl hi dX0_fillCosts_73 (fun H locs hP hD hS => ?_)
              replace hP : va_P (dC, dI) vwCl [(ax, .inr (0, [.ref axn, .ref axg, .ref axc])), (axc, .inl (cy, 36, .inl (upd fxc ((l2 * (4 : Int32)) + l4).toNatClampNeg (if r4 < l3 then r4 else l3)))), (ao, .inr (2, [.ref aod, .int vos])), (aod, .inl (cy, 8, .inl fod))] H := hP
              replace hD : va_D A [(ax, .inr (0, [.ref axn, .ref axg, .ref axc])), (axc, .inl (cy, 36, .inl (upd fxc ((l2 * (4 : Int32)) + l4).toNatClampNeg (if r4 < l3 then r4 else l3)))), (ao, .inr (2, [.ref aod, .int vos])), (aod, .inl (cy, 8, .inl fod))] := hD
              refine lv_iinc (v := l4 + (-1 : Int32)) (lv' := [(4, .int (l4 + (-1 : Int32))), (3, .int (if r4 < l3 then r4 else l3)), (0, .ref ax), (1, .ref ao), (2, .int l2)]) hx hb dX0_fillCosts_74 hl (k := 4) rfl rfl (by decide) rfl (fun ls hl => ?_)
              refine lv_goto (tgt := 44) hx hb dX0_fillCosts_77 (by decide) ?_
              exact ih l2 (if r4 < l3 then r4 else l3) (l4 + (-1 : Int32)) (upd fxc ((l2 * (4 : Int32)) + l4).toNatClampNeg (if r4 < l3 then r4 else l3)) rs H locs ls h (lv_sub hl [2, 3, 4, 1, 0] rfl) hP hD hS K
        obtain ⟨q7, hq7, h⟩ := bd_some h
        refine L44_5 FU l2 (8 : Int32) (3 : Int32) fxc q7 H locs ls hq7 (lv_sub hl [2, 3, 4, 1, 0] rfl) hP hD hS (fun H locs ls hl hP hD hS => ?_)
        refine lv_iinc (v := l2 + (-1 : Int32)) (lv' := [(2, .int (l2 + (-1 : Int32))), (0, .ref ax), (1, .ref ao), (3, .int q7.1), (4, .int q7.2.1)]) hx hb dX0_fillCosts_80 hl (k := 2) rfl rfl (by decide) rfl (fun ls hl => ?_)
        refine lv_goto (tgt := 34) hx hb dX0_fillCosts_83 (by decide) ?_
        exact ih (l2 + (-1 : Int32)) q7.2.2 rs H locs ls h (lv_sub hl [1, 2, 0] rfl) hP hD hS K
  obtain ⟨q10, hq10, h⟩ := bd_some h
  refine L34_8 FU (vos - (1 : Int32)) q3.2 q10 H locs ls hq10 (lv_sub hl [1, 2, 0] rfl) hP hD hS (fun H locs ls hl hP hD hS => ?_)
  have h0 := Option.some.inj h
  subst h0
  exact W.vret hx hb hr (fun t ht hW => ⟨⟨(), rfl, trivial, QW_mk hP hK hD ht hW⟩, hS.F ht⟩) hS.2.2 dX0_fillCosts_86

noncomputable def fX0_raise_L29 (n : Nat) (l2 : Int32) (l3 : Int32) (l4 : Int32) (fxc : Nat → Int32) (fod : Nat → Int32) : Option (Int32) := match n with
  | 0 => none
  | n + 1 => if (3 : Int32) ≤ l2 then (some l2) else (bd (fX0_costWith fxc fod l3 l2) fun r2 => if r2 ≤ l4 then (some l2) else (fX0_raise_L29 n (l2 + (1 : Int32)) l3 l4 fxc fod))
theorem fX0_raise_L29_0 (l2 : Int32) (l3 : Int32) (l4 : Int32) (fxc : Nat → Int32) (fod : Nat → Int32) : fX0_raise_L29 0 l2 l3 l4 fxc fod = none := rfl
theorem fX0_raise_L29_s (n : Nat) (l2 : Int32) (l3 : Int32) (l4 : Int32) (fxc : Nat → Int32) (fod : Nat → Int32) : fX0_raise_L29 (n + 1) l2 l3 l4 fxc fod = if (3 : Int32) ≤ l2 then (some l2) else (bd (fX0_costWith fxc fod l3 l2) fun r2 => if r2 ≤ l4 then (some l2) else (fX0_raise_L29 n (l2 + (1 : Int32)) l3 l4 fxc fod)) := rfl
noncomputable def fX0_raise_L9 (n : Nat) (l2 : Int32) (l3 : Int32) (fxnd : Nat → Int32) (fxc : Nat → Int32) (vos : Int32) (fod : Nat → Int32) : Option (Int32 × Int32 × (Nat → Int32)) := match n with
  | 0 => none
  | n + 1 => if vos ≤ l3 then (some (l2, l3, fxnd)) else (gin ((l3 * (4 : Int32)) + l2) 36 (bd (fX0_raise_L29 FU l2 l3 (fxc ((l3 * (4 : Int32)) + l2).toNatClampNeg) fxc fod) fun q6 => gin l3 8 (fX0_raise_L9 n q6 (l3 + (1 : Int32)) (upd fxnd l3.toNatClampNeg q6) fxc vos fod)))
theorem fX0_raise_L9_0 (l2 : Int32) (l3 : Int32) (fxnd : Nat → Int32) (fxc : Nat → Int32) (vos : Int32) (fod : Nat → Int32) : fX0_raise_L9 0 l2 l3 fxnd fxc vos fod = none := rfl
theorem fX0_raise_L9_s (n : Nat) (l2 : Int32) (l3 : Int32) (fxnd : Nat → Int32) (fxc : Nat → Int32) (vos : Int32) (fod : Nat → Int32) : fX0_raise_L9 (n + 1) l2 l3 fxnd fxc vos fod = if vos ≤ l3 then (some (l2, l3, fxnd)) else (gin ((l3 * (4 : Int32)) + l2) 36 (bd (fX0_raise_L29 FU l2 l3 (fxc ((l3 * (4 : Int32)) + l2).toNatClampNeg) fxc fod) fun q6 => gin l3 8 (fX0_raise_L9 n q6 (l3 + (1 : Int32)) (upd fxnd l3.toNatClampNeg q6) fxc vos fod))) := rfl
noncomputable def fX0_raise (fxnd : Nat → Int32) (fxc : Nat → Int32) (vos : Int32) (fod : Nat → Int32)  : Option ((Nat → Int32) × (Nat → Int32)) := bd (fX0_fillCosts fxc vos fod) fun r1 => bd (fX0_raise_L9 FU (0 : Int32) (0 : Int32) fxnd r1 vos fod) fun q9 => some (q9.2.2, r1)
set_option maxHeartbeats 4000000 in
set_option maxRecDepth 100000 in
theorem c_X0_raise (l : Launch) (dC : Nat → ClassId) (dI : Nat → Nat → Nat) (cy : ClassId) (ax axn axg axc axnd ao aod : Nat) (sz : Nat) (vxns : Int32) (fxnd : Nat → Int32) (fxc : Nat → Int32) (vos : Int32) (fod : Nat → Int32)  (res : (Nat → Int32) × (Nat → Int32)) (h : fX0_raise fxnd fxc vos fod = some res) : Met l yX0_raise wsX0_raise ({ frames := 2, cells := 0, slots := 0, locals := 48 }) (va_Pc [.ref ax, .ref ao] (PW (dC, dI) cy sz [(ax, .inr (0, [.ref axn, .ref axg, .ref axc])), (axn, .inr (2, [.ref axnd, .int vxns])), (axnd, .inl (cy, 8, .inl fxnd)), (axc, .inl (cy, 36, .inl fxc)), (ao, .inr (2, [.ref aod, .int vos])), (aod, .inl (cy, 8, .inl fod))])) (va_Qv (fun (_ : Unit) => True) (QW (dC, dI) cy (va_A [(ax, .inr (0, [.ref axn, .ref axg, .ref axc])), (axn, .inr (2, [.ref axnd, .int vxns])), (axnd, .inl (cy, 8, .inl fxnd)), (axc, .inl (cy, 36, .inl fxc)), (ao, .inr (2, [.ref aod, .int vos])), (aod, .inl (cy, 8, .inl fod))] sz) [(ax, .inr (0, [.ref axn, .ref axg, .ref axc])), (axn, .inr (2, [.ref axnd, .int vxns])), (axnd, .inl (cy, 8, .inl res.1)), (axc, .inl (cy, 36, .inl res.2)), (ao, .inr (2, [.ref aod, .int vos])), (aod, .inl (cy, 8, .inl fod))]) (va_A [(ax, .inr (0, [.ref axn, .ref axg, .ref axc])), (axn, .inr (2, [.ref axnd, .int vxns])), (axnd, .inl (cy, 8, .inl fxnd)), (axc, .inl (cy, 36, .inl fxc)), (ao, .inr (2, [.ref aod, .int vos])), (aod, .inl (cy, 8, .inl fod))] sz)) 0 0 (va_A [(ax, .inr (0, [.ref axn, .ref axg, .ref axc])), (axn, .inr (2, [.ref axnd, .int vxns])), (axnd, .inl (cy, 8, .inl fxnd)), (axc, .inl (cy, 36, .inl fxc)), (ao, .inr (2, [.ref aod, .int vos])), (aod, .inl (cy, 8, .inl fod))] sz) := by
  refine Met.ofW (cc := cX0_raise) (maxL := 5) (ret := none) (by decide) rfl ?_
  intro p e s m args below meth c s₁ B hml hv
  obtain ⟨rfl, hsz, hP, hK, hD0, hN⟩ := hv
  have hx := B.exec
  have hb := B.bytes
  have hr := B.returns
  have hts := atoms_spec (ws := wsX0_raise) B.pre
  have hown : s.vm.findClass RX0 = some m.cls := findClass_of_methodNamed B.named
  have hlocks := B.notSynchronized
  subst hsz
  have hD := hD0.self (sz := s.heap.size)
  clear hD0
  generalize hAe : va_A [(ax, .inr (0, [.ref axn, .ref axg, .ref axc])), (axn, .inr (2, [.ref axnd, .int vxns])), (axnd, .inl (cy, 8, .inl fxnd)), (axc, .inl (cy, 36, .inl fxc)), (ao, .inr (2, [.ref aod, .int vos])), (aod, .inl (cy, 8, .inl fod))] s.heap.size = A at hD ⊢
  have hA : ∀ q : Nat, s.heap.size ≤ q → A q := fun q h => by rw [← hAe]; exact Or.inr h
  have hS : va_S A s.heap s.heap [] := va_S.rf
  have hl := lv_entry ([.ref ax, .ref ao]) (n := 5) (Nat.le_of_ble_eq_true rfl)
  rw [lg_entry_eq]
  generalize (lg_sl ([.ref ax, .ref ao]) ++ List.replicate (5 - (lg_sl ([.ref ax, .ref ao])).length) Slot.unset).toArray = ls at hl ⊢
  replace hl : lv_has ls 5 [(0, .ref ax), (1, .ref ao)] := hl
  replace hP : va_P (dC, dI) vwCl [(ax, .inr (0, [.ref axn, .ref axg, .ref axc])), (axn, .inr (2, [.ref axnd, .int vxns])), (axnd, .inl (cy, 8, .inl fxnd)), (axc, .inl (cy, 36, .inl fxc)), (ao, .inr (2, [.ref aod, .int vos])), (aod, .inl (cy, 8, .inl fod))] s.heap := hP
  obtain ⟨locs, hlocs⟩ : ∃ lc : List Loc, lc = [] := ⟨_, rfl⟩
  rw [← hlocs] at hS ⊢
  obtain ⟨H, hH⟩ : ∃ H : Heap, H = s.heap := ⟨_, rfl⟩
  have hP2 := hP; rw [← hH] at hP2
  have hS2 : va_S A s.heap H locs := by rw [hH]; exact hS
  suffices hgo : W p l e (headSpec wsX0_raise ({ frames := 2, cells := 0, slots := 0, locals := 48 })).room s m (([.ref ax, .ref ao] : List Value).toArray) below meth c H locs 0 0 (MQ below (va_Qv (fun (_ : Unit) => True) (QW (dC, dI) cy A [(ax, .inr (0, [.ref axn, .ref axg, .ref axc])), (axn, .inr (2, [.ref axnd, .int vxns])), (axnd, .inl (cy, 8, .inl res.1)), (axc, .inl (cy, 36, .inl res.2)), (ao, .inr (2, [.ref aod, .int vos])), (aod, .inl (cy, 8, .inl fod))]) A) (([.ref ax, .ref ao] : List Value).toArray) s 0 0 A) (F0 m 0 ls []) by rw [hH] at hgo; exact hgo
  replace hP := hP2
  replace hS := hS2
  clear hP2 hS2
  have hin_X0 : ∀ w ∈ wsX00, w ∈ wsX0_raise := by decide +kernel
  have hin_X2 : ∀ w ∈ wsX20, w ∈ wsX0_raise := by decide +kernel
  have hf_12 := hts (.fieldLink RX0 12 "FewLooks$Mender" "near" "LFewLooks$Row;") (by decide +kernel)
  have hf_21 := hts (.fieldLink RX0 21 "FewLooks$Mender" "costs" "[I") (by decide +kernel)
  unfold fX0_raise at h
  refine lv_aload_n hx hb dX0_raise_0 rfl (lv_at hl 0 rfl) ?_
  refine lv_aload_n hx hb dX0_raise_1 rfl (lv_at hl 1 rfl) ?_
  obtain ⟨r1, hr1, h⟩ := bd_some h
  have hFc := va_free (wc := [(ax, .inr (0, [.ref axn, .ref axg, .ref axc])), (axc, .inl (cy, 36, .inl fxc)), (ao, .inr (2, [.ref aod, .int vos])), (aod, .inl (cy, 8, .inl fod))]) hD hS hA [0, 3, 4, 5] rfl
  refine va_callv (va_runV (As := [.ref ao]) (rest := []) ⟨hx, hb, hml, hown, hts⟩ (c_X0_fillCosts l dC dI cy ax axn axg axc ao aod H.size fxc vos fod  r1 hr1) (cwV 1 hts gX0_raise_X0_fillCosts rfl rfl rfl (by decide +kernel) ⟨Nat.le_of_ble_eq_true rfl, Nat.le_of_ble_eq_true rfl⟩) ⟨PW_fb, va_recv hK hP (ci := 0) (q0 := 0) rfl rfl, PW_pre (hP.sub (ws' := [(ax, .inr (0, [.ref axn, .ref axg, .ref axc])), (axc, .inl (cy, 36, .inl fxc)), (ao, .inr (2, [.ref aod, .int vos])), (aod, .inl (cy, 8, .inl fod))]) [0, 3, 4, 5] rfl) hK (hD.sub [0, 3, 4, 5] (by decide) rfl) hN⟩ rfl rfl hl.1 rfl (lv_room (Nat.le_of_ble_eq_true rfl)) dX0_raise_2 ⟨Nat.zero_le _, Nat.zero_le _⟩) hS (fun q _ h => hFc q h) hFc (fun u t H locs ht hvm hw hB hz1 hk1 hS => ?_)
  obtain ⟨hP, hD⟩ := jn (wr := [(axn, .inr (2, [.ref axnd, .int vxns])), (axnd, .inl (cy, 8, .inl fxnd))]) (w1 := [(ax, .inr (0, [.ref axn, .ref axg, .ref axc])), (axc, .inl (cy, 36, .inl r1)), (ao, .inr (2, [.ref aod, .int vos])), (aod, .inl (cy, 8, .inl fod))]) (ws' := [(ax, .inr (0, [.ref axn, .ref axg, .ref axc])), (axn, .inr (2, [.ref axnd, .int vxns])), (axnd, .inl (cy, 8, .inl fxnd)), (axc, .inl (cy, 36, .inl r1)), (ao, .inr (2, [.ref aod, .int vos])), (aod, .inl (cy, 8, .inl fod))]) hP hD [0, 3, 4, 5] [1, 2] rfl rfl (by decide) (by decide) hk1 hFc hB ht [2, 0, 1, 3, 4, 5] rfl (by decide) rfl
  clear hFc hB hk1 hz1 hvm
  refine lv_iconst (v := (0 : Int32)) hx hb dX0_raise_5 (by decide) ?_
  refine lv_istore_n (lv' := [(2, .int (0 : Int32)), (0, .ref ax), (1, .ref ao)]) hx hb dX0_raise_6 rfl hl (by decide) rfl (fun ls hl => ?_)
  refine lv_iconst (v := (0 : Int32)) hx hb dX0_raise_7 (by decide) ?_
  refine lv_istore_n (lv' := [(3, .int (0 : Int32)), (2, .int (0 : Int32)), (0, .ref ax), (1, .ref ao)]) hx hb dX0_raise_8 rfl hl (by decide) rfl (fun ls hl => ?_)
  have L9_7 : ∀ (n : Nat) (l2 : Int32) (l3 : Int32) (fxnd : Nat → Int32) (fxc : Nat → Int32) (rs : (Int32 × Int32 × (Nat → Int32))) (H : Heap) (locs : List Loc) (ls : Array Slot), fX0_raise_L9 n l2 l3 fxnd fxc vos fod = some rs → lv_has ls 5 [(0, .ref ax), (1, .ref ao), (2, .int l2), (3, .int l3)] → va_P (dC, dI) vwCl [(ax, .inr (0, [.ref axn, .ref axg, .ref axc])), (axn, .inr (2, [.ref axnd, .int vxns])), (axnd, .inl (cy, 8, .inl fxnd)), (axc, .inl (cy, 36, .inl fxc)), (ao, .inr (2, [.ref aod, .int vos])), (aod, .inl (cy, 8, .inl fod))] H → va_D A [(ax, .inr (0, [.ref axn, .ref axg, .ref axc])), (axn, .inr (2, [.ref axnd, .int vxns])), (axnd, .inl (cy, 8, .inl fxnd)), (axc, .inl (cy, 36, .inl fxc)), (ao, .inr (2, [.ref aod, .int vos])), (aod, .inl (cy, 8, .inl fod))] → va_S A s.heap H locs → (∀ (H : Heap) (locs : List Loc) (ls : Array Slot), lv_has ls 5 [(0, .ref ax), (1, .ref ao), (2, .int rs.1), (3, .int rs.2.1)] → va_P (dC, dI) vwCl [(ax, .inr (0, [.ref axn, .ref axg, .ref axc])), (axn, .inr (2, [.ref axnd, .int vxns])), (axnd, .inl (cy, 8, .inl rs.2.2)), (axc, .inl (cy, 36, .inl fxc)), (ao, .inr (2, [.ref aod, .int vos])), (aod, .inl (cy, 8, .inl fod))] H → va_D A [(ax, .inr (0, [.ref axn, .ref axg, .ref axc])), (axn, .inr (2, [.ref axnd, .int vxns])), (axnd, .inl (cy, 8, .inl rs.2.2)), (axc, .inl (cy, 36, .inl fxc)), (ao, .inr (2, [.ref aod, .int vos])), (aod, .inl (cy, 8, .inl fod))] → va_S A s.heap H locs → W p l e (headSpec wsX0_raise ({ frames := 2, cells := 0, slots := 0, locals := 48 })).room s m (([.ref ax, .ref ao] : List Value).toArray) below meth c H locs 0 0 (MQ below (va_Qv (fun (_ : Unit) => True) (QW (dC, dI) cy A [(ax, .inr (0, [.ref axn, .ref axg, .ref axc])), (axn, .inr (2, [.ref axnd, .int vxns])), (axnd, .inl (cy, 8, .inl res.1)), (axc, .inl (cy, 36, .inl res.2)), (ao, .inr (2, [.ref aod, .int vos])), (aod, .inl (cy, 8, .inl fod))]) A) (([.ref ax, .ref ao] : List Value).toArray) s 0 0 A) (F0 m 68 ls [])) → W p l e (headSpec wsX0_raise ({ frames := 2, cells := 0, slots := 0, locals := 48 })).room s m (([.ref ax, .ref ao] : List Value).toArray) below meth c H locs 0 0 (MQ below (va_Qv (fun (_ : Unit) => True) (QW (dC, dI) cy A [(ax, .inr (0, [.ref axn, .ref axg, .ref axc])), (axn, .inr (2, [.ref axnd, .int vxns])), (axnd, .inl (cy, 8, .inl res.1)), (axc, .inl (cy, 36, .inl res.2)), (ao, .inr (2, [.ref aod, .int vos])), (aod, .inl (cy, 8, .inl fod))]) A) (([.ref ax, .ref ao] : List Value).toArray) s 0 0 A) (F0 m 9 ls []) := by
    intro n
    induction n with
    | zero =>
      intro l2 l3 fxnd fxc rs H locs ls h
      rw [fX0_raise_L9_0] at h
      cases h
    | succ n ih =>
      intro l2 l3 fxnd fxc rs H locs ls h hl hP hD hS K
      rw [fX0_raise_L9_s] at h
      refine lv_iload_n hx hb dX0_raise_9 rfl (lv_at hl 3 rfl) ?_
      refine lv_aload_n hx hb dX0_raise_10 rfl (lv_at hl 1 rfl) ?_
      refine va_getN (D := (dC, dI)) (ci := 2) (v := .int vos) (C := RX2) (T := TX2) (N := 2) hx hb hts hin_X2 hown hK hP 4 rfl rfl 1 (by decide) (va_Nw.use rfl (hN.2.2.2.2.1)) (fun _ h9 => h9) rfl dX0_raise_11 ?_
      refine lv_icmp_ge (tgt := 68) hx hb dX0_raise_14 (by decide) (fun c7 => ?_) (fun c7 => ?_)
      · rw [if_pos c7] at h
        have h0 := Option.some.inj h
        subst h0
        exact K H locs ls (lv_sub hl [0, 1, 2, 3] rfl) hP hD hS
      · rw [if_neg c7] at h
        refine lv_aload_n hx hb dX0_raise_17 rfl (lv_at hl 0 rfl) ?_
        refine va_get (D := (dC, dI)) (ci := 0) (v := .ref axc) (C := RX0) (T := TX0) (N := 3) hx hb hts hin_X0 hown hK hP 0 rfl rfl 2 (by decide) (hf_21) (fun _ h9 => h9) rfl dX0_raise_18 ?_
        refine lv_iload_n hx hb dX0_raise_21 rfl (lv_at hl 3 rfl) ?_
        refine lv_iconst (v := (4 : Int32)) hx hb dX0_raise_22 (by decide) ?_
        refine lv_imul hx hb dX0_raise_23 ?_
        refine lv_iload_n hx hb dX0_raise_24 rfl (lv_at hl 2 rfl) ?_
        refine lv_iadd hx hb dX0_raise_25 ?_
        obtain ⟨hi, h⟩ := gin_some h
        refine va_iald hx hb hK hP 3 0 rfl rfl hi dX0_raise_26 ?_
        refine lv_istore (lv' := [(4, .int (fxc ((l3 * (4 : Int32)) + l2).toNatClampNeg)), (0, .ref ax), (1, .ref ao), (2, .int l2), (3, .int l3)]) hx hb dX0_raise_27 hl (by decide) rfl (fun ls hl => ?_)
        have L29_4 : ∀ (n : Nat) (l2 : Int32) (l3 : Int32) (l4 : Int32) (fxnd : Nat → Int32) (fxc : Nat → Int32) (rs : (Int32)) (H : Heap) (locs : List Loc) (ls : Array Slot), fX0_raise_L29 n l2 l3 l4 fxc fod = some rs → lv_has ls 5 [(0, .ref ax), (1, .ref ao), (2, .int l2), (3, .int l3), (4, .int l4)] → va_P (dC, dI) vwCl [(ax, .inr (0, [.ref axn, .ref axg, .ref axc])), (axn, .inr (2, [.ref axnd, .int vxns])), (axnd, .inl (cy, 8, .inl fxnd)), (axc, .inl (cy, 36, .inl fxc)), (ao, .inr (2, [.ref aod, .int vos])), (aod, .inl (cy, 8, .inl fod))] H → va_D A [(ax, .inr (0, [.ref axn, .ref axg, .ref axc])), (axn, .inr (2, [.ref axnd, .int vxns])), (axnd, .inl (cy, 8, .inl fxnd)), (axc, .inl (cy, 36, .inl fxc)), (ao, .inr (2, [.ref aod, .int vos])), (aod, .inl (cy, 8, .inl fod))] → va_S A s.heap H locs → (∀ (H : Heap) (locs : List Loc) (ls : Array Slot), lv_has ls 5 [(0, .ref ax), (1, .ref ao), (2, .int rs), (3, .int l3), (4, .int l4)] → va_P (dC, dI) vwCl [(ax, .inr (0, [.ref axn, .ref axg, .ref axc])), (axn, .inr (2, [.ref axnd, .int vxns])), (axnd, .inl (cy, 8, .inl fxnd)), (axc, .inl (cy, 36, .inl fxc)), (ao, .inr (2, [.ref aod, .int vos])), (aod, .inl (cy, 8, .inl fod))] H → va_D A [(ax, .inr (0, [.ref axn, .ref axg, .ref axc])), (axn, .inr (2, [.ref axnd, .int vxns])), (axnd, .inl (cy, 8, .inl fxnd)), (axc, .inl (cy, 36, .inl fxc)), (ao, .inr (2, [.ref aod, .int vos])), (aod, .inl (cy, 8, .inl fod))] → va_S A s.heap H locs → W p l e (headSpec wsX0_raise ({ frames := 2, cells := 0, slots := 0, locals := 48 })).room s m (([.ref ax, .ref ao] : List Value).toArray) below meth c H locs 0 0 (MQ below (va_Qv (fun (_ : Unit) => True) (QW (dC, dI) cy A [(ax, .inr (0, [.ref axn, .ref axg, .ref axc])), (axn, .inr (2, [.ref axnd, .int vxns])), (axnd, .inl (cy, 8, .inl res.1)), (axc, .inl (cy, 36, .inl res.2)), (ao, .inr (2, [.ref aod, .int vos])), (aod, .inl (cy, 8, .inl fod))]) A) (([.ref ax, .ref ao] : List Value).toArray) s 0 0 A) (F0 m 52 ls [])) → W p l e (headSpec wsX0_raise ({ frames := 2, cells := 0, slots := 0, locals := 48 })).room s m (([.ref ax, .ref ao] : List Value).toArray) below meth c H locs 0 0 (MQ below (va_Qv (fun (_ : Unit) => True) (QW (dC, dI) cy A [(ax, .inr (0, [.ref axn, .ref axg, .ref axc])), (axn, .inr (2, [.ref axnd, .int vxns])), (axnd, .inl (cy, 8, .inl res.1)), (axc, .inl (cy, 36, .inl res.2)), (ao, .inr (2, [.ref aod, .int vos])), (aod, .inl (cy, 8, .inl fod))]) A) (([.ref ax, .ref ao] : List Value).toArray) s 0 0 A) (F0 m 29 ls []) := by
          intro n
          induction n with
          | zero =>
            intro l2 l3 l4 fxnd fxc rs H locs ls h
            rw [fX0_raise_L29_0] at h
            cases h
          | succ n ih =>
            intro l2 l3 l4 fxnd fxc rs H locs ls h hl hP hD hS K
            rw [fX0_raise_L29_s] at h
            refine lv_iload_n hx hb dX0_raise_29 rfl (lv_at hl 2 rfl) ?_
            refine lv_iconst (v := (3 : Int32)) hx hb dX0_raise_30 (by decide) ?_
            refine lv_icmp_ge (tgt := 52) hx hb dX0_raise_31 (by decide) (fun c4 => ?_) (fun c4 => ?_)
            · rw [if_pos c4] at h
              have h0 := Option.some.inj h
              subst h0
              exact K H locs ls (lv_sub hl [0, 1, 2, 3, 4] rfl) hP hD hS
            · rw [if_neg c4] at h
              refine lv_aload_n hx hb dX0_raise_34 rfl (lv_at hl 0 rfl) ?_
              refine lv_aload_n hx hb dX0_raise_35 rfl (lv_at hl 1 rfl) ?_
              refine lv_iload_n hx hb dX0_raise_36 rfl (lv_at hl 3 rfl) ?_
              refine lv_iload_n hx hb dX0_raise_37 rfl (lv_at hl 2 rfl) ?_
              obtain ⟨r2, hr2, h⟩ := bd_some h
              have hFc := va_free (wc := [(ax, .inr (0, [.ref axn, .ref axg, .ref axc])), (axc, .inl (cy, 36, .inl fxc)), (ao, .inr (2, [.ref aod, .int vos])), (aod, .inl (cy, 8, .inl fod))]) hD hS hA [0, 3, 4, 5] rfl
              refine va_calli (va_runV (As := [.ref ao, .int l3, .int l2]) (rest := []) ⟨hx, hb, hml, hown, hts⟩ (c_X0_costWith l dC dI cy ax axn axg axc ao aod H.size fxc vos fod l3 l2 r2 hr2) (cwV 3 hts gX0_raise_X0_costWith rfl rfl rfl (by decide +kernel) ⟨Nat.le_of_ble_eq_true rfl, Nat.le_of_ble_eq_true rfl⟩) ⟨PW_fb, va_recv hK hP (ci := 0) (q0 := 0) rfl rfl, PW_pre (hP.sub (ws' := [(ax, .inr (0, [.ref axn, .ref axg, .ref axc])), (axc, .inl (cy, 36, .inl fxc)), (ao, .inr (2, [.ref aod, .int vos])), (aod, .inl (cy, 8, .inl fod))]) [0, 3, 4, 5] rfl) hK (hD.sub [0, 3, 4, 5] (by decide) rfl) hN⟩ rfl rfl hl.1 rfl (lv_room (Nat.le_of_ble_eq_true rfl)) dX0_raise_38 ⟨Nat.zero_le _, Nat.zero_le _⟩) hS (fun q _ h => hFc q h) hFc (fun rz u t H locs ht hvm hw hB hz1 hk1 hS => ?_)
              obtain ⟨hP, hD⟩ := jn (wr := [(axn, .inr (2, [.ref axnd, .int vxns])), (axnd, .inl (cy, 8, .inl fxnd))]) (w1 := [(ax, .inr (0, [.ref axn, .ref axg, .ref axc])), (axc, .inl (cy, 36, .inl fxc)), (ao, .inr (2, [.ref aod, .int vos])), (aod, .inl (cy, 8, .inl fod))]) (ws' := [(ax, .inr (0, [.ref axn, .ref axg, .ref axc])), (axn, .inr (2, [.ref axnd, .int vxns])), (axnd, .inl (cy, 8, .inl fxnd)), (axc, .inl (cy, 36, .inl fxc)), (ao, .inr (2, [.ref aod, .int vos])), (aod, .inl (cy, 8, .inl fod))]) hP hD [0, 3, 4, 5] [1, 2] rfl rfl (by decide) (by decide) hk1 hFc hB ht [2, 0, 1, 3, 4, 5] rfl (by decide) rfl
              replace hw := hw.symm
              subst hw
              clear hFc hB hk1 hz1 hvm
              refine lv_iload hx hb dX0_raise_41 (lv_at hl 4 rfl) ?_
              refine lv_icmp_le (tgt := 52) hx hb dX0_raise_43 (by decide) (fun c3 => ?_) (fun c3 => ?_)
              · rw [if_pos c3] at h
                have h0 := Option.some.inj h
                subst h0
                exact K H locs ls (lv_sub hl [0, 1, 2, 3, 4] rfl) hP hD hS
              · rw [if_neg c3] at h
                refine lv_iinc (v := l2 + (1 : Int32)) (lv' := [(2, .int (l2 + (1 : Int32))), (0, .ref ax), (1, .ref ao), (3, .int l3), (4, .int l4)]) hx hb dX0_raise_46 hl (k := 2) rfl rfl (by decide) rfl (fun ls hl => ?_)
                refine lv_goto (tgt := 29) hx hb dX0_raise_49 (by decide) ?_
                exact ih (l2 + (1 : Int32)) l3 l4 fxnd fxc rs H locs ls h (lv_sub hl [1, 2, 0, 3, 4] rfl) hP hD hS K
        obtain ⟨q6, hq6, h⟩ := bd_some h
        refine L29_4 FU l2 l3 (fxc ((l3 * (4 : Int32)) + l2).toNatClampNeg) fxnd fxc q6 H locs ls hq6 (lv_sub hl [1, 2, 3, 4, 0] rfl) hP hD hS (fun H locs ls hl hP hD hS => ?_)
        refine lv_aload_n hx hb dX0_raise_52 rfl (lv_at hl 0 rfl) ?_
        refine va_get (D := (dC, dI)) (ci := 0) (v := .ref axn) (C := RX0) (T := TX0) (N := 3) hx hb hts hin_X0 hown hK hP 0 rfl rfl 0 (by decide) (hf_12) (fun _ h9 => h9) rfl dX0_raise_53 ?_
        refine va_getN (D := (dC, dI)) (ci := 2) (v := .ref axnd) (C := RX2) (T := TX2) (N := 2) hx hb hts hin_X2 hown hK hP 1 rfl rfl 0 (by decide) (va_Nw.use rfl (hN.2.2.2.2.2.1)) (fun _ h9 => h9) rfl dX0_raise_56 ?_
        refine lv_iload_n hx hb dX0_raise_59 rfl (lv_at hl 3 rfl) ?_
        refine lv_iload_n hx hb dX0_raise_60 rfl (lv_at hl 2 rfl) ?_
        obtain ⟨hi, h⟩ := gin_some h
        refine va_iast hx hb hK hP hD hS 2 0 rfl rfl hi dX0_raise_61 (fun H locs hP hD hS => ?_)
        replace hP : va_P (dC, dI) vwCl [(ax, .inr (0, [.ref axn, .ref axg, .ref axc])), (axn, .inr (2, [.ref axnd, .int vxns])), (axnd, .inl (cy, 8, .inl (upd fxnd l3.toNatClampNeg q6))), (axc, .inl (cy, 36, .inl fxc)), (ao, .inr (2, [.ref aod, .int vos])), (aod, .inl (cy, 8, .inl fod))] H := hP
        replace hD : va_D A [(ax, .inr (0, [.ref axn, .ref axg, .ref axc])), (axn, .inr (2, [.ref axnd, .int vxns])), (axnd, .inl (cy, 8, .inl (upd fxnd l3.toNatClampNeg q6))), (axc, .inl (cy, 36, .inl fxc)), (ao, .inr (2, [.ref aod, .int vos])), (aod, .inl (cy, 8, .inl fod))] := hD
        refine lv_iinc (v := l3 + (1 : Int32)) (lv' := [(3, .int (l3 + (1 : Int32))), (0, .ref ax), (1, .ref ao), (2, .int q6), (4, .int (fxc ((l3 * (4 : Int32)) + l2).toNatClampNeg))]) hx hb dX0_raise_62 hl (k := 3) rfl rfl (by decide) rfl (fun ls hl => ?_)
        refine lv_goto (tgt := 9) hx hb dX0_raise_65 (by decide) ?_
        exact ih q6 (l3 + (1 : Int32)) (upd fxnd l3.toNatClampNeg q6) fxc rs H locs ls h (lv_sub hl [1, 2, 3, 0] rfl) hP hD hS K
  obtain ⟨q9, hq9, h⟩ := bd_some h
  refine L9_7 FU (0 : Int32) (0 : Int32) fxnd r1 q9 H locs ls hq9 (lv_sub hl [2, 3, 1, 0] rfl) hP hD hS (fun H locs ls hl hP hD hS => ?_)
  have h0 := Option.some.inj h
  subst h0
  exact W.vret hx hb hr (fun t ht hW => ⟨⟨(), rfl, trivial, QW_mk hP hK hD ht hW⟩, hS.F ht⟩) hS.2.2 dX0_raise_68

noncomputable def fX0_mirror_L2 (n : Nat) (l2 : Int32) (fxnd : Nat → Int32) (vos : Int32) (fod : Nat → Int32) : Option (Int32 × (Nat → Int32)) := match n with
  | 0 => none
  | n + 1 => if vos ≤ l2 then (some (l2, fxnd)) else (gin l2 8 (gin ((vos - (1 : Int32)) - l2) 8 (gin l2 8 (fX0_mirror_L2 n (l2 + (1 : Int32)) (upd fxnd l2.toNatClampNeg (if (fod ((vos - (1 : Int32)) - l2).toNatClampNeg) < (fod l2.toNatClampNeg) then (fod ((vos - (1 : Int32)) - l2).toNatClampNeg) else (fod l2.toNatClampNeg))) vos fod))))
theorem fX0_mirror_L2_0 (l2 : Int32) (fxnd : Nat → Int32) (vos : Int32) (fod : Nat → Int32) : fX0_mirror_L2 0 l2 fxnd vos fod = none := rfl
theorem fX0_mirror_L2_s (n : Nat) (l2 : Int32) (fxnd : Nat → Int32) (vos : Int32) (fod : Nat → Int32) : fX0_mirror_L2 (n + 1) l2 fxnd vos fod = if vos ≤ l2 then (some (l2, fxnd)) else (gin l2 8 (gin ((vos - (1 : Int32)) - l2) 8 (gin l2 8 (fX0_mirror_L2 n (l2 + (1 : Int32)) (upd fxnd l2.toNatClampNeg (if (fod ((vos - (1 : Int32)) - l2).toNatClampNeg) < (fod l2.toNatClampNeg) then (fod ((vos - (1 : Int32)) - l2).toNatClampNeg) else (fod l2.toNatClampNeg))) vos fod)))) := rfl
noncomputable def fX0_mirror (fxnd : Nat → Int32) (vos : Int32) (fod : Nat → Int32)  : Option ((Nat → Int32)) := bd (fX0_mirror_L2 FU (0 : Int32) fxnd vos fod) fun q3 => some q3.2
set_option maxHeartbeats 4000000 in
set_option maxRecDepth 100000 in
theorem c_X0_mirror (l : Launch) (dC : Nat → ClassId) (dI : Nat → Nat → Nat) (cy : ClassId) (ax axn axg axc axnd ao aod : Nat) (sz : Nat) (vxns : Int32) (fxnd : Nat → Int32) (vos : Int32) (fod : Nat → Int32)  (res : (Nat → Int32)) (h : fX0_mirror fxnd vos fod = some res) : Met l yX0_mirror wsX0_mirror ({ frames := 1, cells := 0, slots := 0, locals := 21 }) (va_Pc [.ref ax, .ref ao] (PW (dC, dI) cy sz [(ax, .inr (0, [.ref axn, .ref axg, .ref axc])), (axn, .inr (2, [.ref axnd, .int vxns])), (axnd, .inl (cy, 8, .inl fxnd)), (ao, .inr (2, [.ref aod, .int vos])), (aod, .inl (cy, 8, .inl fod))])) (va_Qv (fun (_ : Unit) => True) (QW (dC, dI) cy (va_A [(ax, .inr (0, [.ref axn, .ref axg, .ref axc])), (axn, .inr (2, [.ref axnd, .int vxns])), (axnd, .inl (cy, 8, .inl fxnd)), (ao, .inr (2, [.ref aod, .int vos])), (aod, .inl (cy, 8, .inl fod))] sz) [(ax, .inr (0, [.ref axn, .ref axg, .ref axc])), (axn, .inr (2, [.ref axnd, .int vxns])), (axnd, .inl (cy, 8, .inl res)), (ao, .inr (2, [.ref aod, .int vos])), (aod, .inl (cy, 8, .inl fod))]) (va_A [(ax, .inr (0, [.ref axn, .ref axg, .ref axc])), (axn, .inr (2, [.ref axnd, .int vxns])), (axnd, .inl (cy, 8, .inl fxnd)), (ao, .inr (2, [.ref aod, .int vos])), (aod, .inl (cy, 8, .inl fod))] sz)) 0 0 (va_A [(ax, .inr (0, [.ref axn, .ref axg, .ref axc])), (axn, .inr (2, [.ref axnd, .int vxns])), (axnd, .inl (cy, 8, .inl fxnd)), (ao, .inr (2, [.ref aod, .int vos])), (aod, .inl (cy, 8, .inl fod))] sz) := by
  refine Met.ofW (cc := cX0_mirror) (maxL := 3) (ret := none) (by decide) rfl ?_
  intro p e s m args below meth c s₁ B hml hv
  obtain ⟨rfl, hsz, hP, hK, hD0, hN⟩ := hv
  have hx := B.exec
  have hb := B.bytes
  have hr := B.returns
  have hts := atoms_spec (ws := wsX0_mirror) B.pre
  have hown : s.vm.findClass RX0 = some m.cls := findClass_of_methodNamed B.named
  have hlocks := B.notSynchronized
  subst hsz
  have hD := hD0.self (sz := s.heap.size)
  clear hD0
  generalize hAe : va_A [(ax, .inr (0, [.ref axn, .ref axg, .ref axc])), (axn, .inr (2, [.ref axnd, .int vxns])), (axnd, .inl (cy, 8, .inl fxnd)), (ao, .inr (2, [.ref aod, .int vos])), (aod, .inl (cy, 8, .inl fod))] s.heap.size = A at hD ⊢
  have hA : ∀ q : Nat, s.heap.size ≤ q → A q := fun q h => by rw [← hAe]; exact Or.inr h
  have hS : va_S A s.heap s.heap [] := va_S.rf
  have hl := lv_entry ([.ref ax, .ref ao]) (n := 3) (Nat.le_of_ble_eq_true rfl)
  rw [lg_entry_eq]
  generalize (lg_sl ([.ref ax, .ref ao]) ++ List.replicate (3 - (lg_sl ([.ref ax, .ref ao])).length) Slot.unset).toArray = ls at hl ⊢
  replace hl : lv_has ls 3 [(0, .ref ax), (1, .ref ao)] := hl
  replace hP : va_P (dC, dI) vwCl [(ax, .inr (0, [.ref axn, .ref axg, .ref axc])), (axn, .inr (2, [.ref axnd, .int vxns])), (axnd, .inl (cy, 8, .inl fxnd)), (ao, .inr (2, [.ref aod, .int vos])), (aod, .inl (cy, 8, .inl fod))] s.heap := hP
  obtain ⟨locs, hlocs⟩ : ∃ lc : List Loc, lc = [] := ⟨_, rfl⟩
  rw [← hlocs] at hS ⊢
  obtain ⟨H, hH⟩ : ∃ H : Heap, H = s.heap := ⟨_, rfl⟩
  have hP2 := hP; rw [← hH] at hP2
  have hS2 : va_S A s.heap H locs := by rw [hH]; exact hS
  suffices hgo : W p l e (headSpec wsX0_mirror ({ frames := 1, cells := 0, slots := 0, locals := 21 })).room s m (([.ref ax, .ref ao] : List Value).toArray) below meth c H locs 0 0 (MQ below (va_Qv (fun (_ : Unit) => True) (QW (dC, dI) cy A [(ax, .inr (0, [.ref axn, .ref axg, .ref axc])), (axn, .inr (2, [.ref axnd, .int vxns])), (axnd, .inl (cy, 8, .inl res)), (ao, .inr (2, [.ref aod, .int vos])), (aod, .inl (cy, 8, .inl fod))]) A) (([.ref ax, .ref ao] : List Value).toArray) s 0 0 A) (F0 m 0 ls []) by rw [hH] at hgo; exact hgo
  replace hP := hP2
  replace hS := hS2
  clear hP2 hS2
  have hin_X0 : ∀ w ∈ wsX00, w ∈ wsX0_mirror := by decide +kernel
  have hin_X2 : ∀ w ∈ wsX20, w ∈ wsX0_mirror := by decide +kernel
  have hf_12 := hts (.fieldLink RX0 12 "FewLooks$Mender" "near" "LFewLooks$Row;") (by decide +kernel)
  unfold fX0_mirror at h
  refine lv_iconst (v := (0 : Int32)) hx hb dX0_mirror_0 (by decide) ?_
  refine lv_istore_n (lv' := [(2, .int (0 : Int32)), (0, .ref ax), (1, .ref ao)]) hx hb dX0_mirror_1 rfl hl (by decide) rfl (fun ls hl => ?_)
  have L2_1 : ∀ (n : Nat) (l2 : Int32) (fxnd : Nat → Int32) (rs : (Int32 × (Nat → Int32))) (H : Heap) (locs : List Loc) (ls : Array Slot), fX0_mirror_L2 n l2 fxnd vos fod = some rs → lv_has ls 3 [(0, .ref ax), (1, .ref ao), (2, .int l2)] → va_P (dC, dI) vwCl [(ax, .inr (0, [.ref axn, .ref axg, .ref axc])), (axn, .inr (2, [.ref axnd, .int vxns])), (axnd, .inl (cy, 8, .inl fxnd)), (ao, .inr (2, [.ref aod, .int vos])), (aod, .inl (cy, 8, .inl fod))] H → va_D A [(ax, .inr (0, [.ref axn, .ref axg, .ref axc])), (axn, .inr (2, [.ref axnd, .int vxns])), (axnd, .inl (cy, 8, .inl fxnd)), (ao, .inr (2, [.ref aod, .int vos])), (aod, .inl (cy, 8, .inl fod))] → va_S A s.heap H locs → (∀ (H : Heap) (locs : List Loc) (ls : Array Slot), lv_has ls 3 [(0, .ref ax), (1, .ref ao), (2, .int rs.1)] → va_P (dC, dI) vwCl [(ax, .inr (0, [.ref axn, .ref axg, .ref axc])), (axn, .inr (2, [.ref axnd, .int vxns])), (axnd, .inl (cy, 8, .inl rs.2)), (ao, .inr (2, [.ref aod, .int vos])), (aod, .inl (cy, 8, .inl fod))] H → va_D A [(ax, .inr (0, [.ref axn, .ref axg, .ref axc])), (axn, .inr (2, [.ref axnd, .int vxns])), (axnd, .inl (cy, 8, .inl rs.2)), (ao, .inr (2, [.ref aod, .int vos])), (aod, .inl (cy, 8, .inl fod))] → va_S A s.heap H locs → W p l e (headSpec wsX0_mirror ({ frames := 1, cells := 0, slots := 0, locals := 21 })).room s m (([.ref ax, .ref ao] : List Value).toArray) below meth c H locs 0 0 (MQ below (va_Qv (fun (_ : Unit) => True) (QW (dC, dI) cy A [(ax, .inr (0, [.ref axn, .ref axg, .ref axc])), (axn, .inr (2, [.ref axnd, .int vxns])), (axnd, .inl (cy, 8, .inl res)), (ao, .inr (2, [.ref aod, .int vos])), (aod, .inl (cy, 8, .inl fod))]) A) (([.ref ax, .ref ao] : List Value).toArray) s 0 0 A) (F0 m 47 ls [])) → W p l e (headSpec wsX0_mirror ({ frames := 1, cells := 0, slots := 0, locals := 21 })).room s m (([.ref ax, .ref ao] : List Value).toArray) below meth c H locs 0 0 (MQ below (va_Qv (fun (_ : Unit) => True) (QW (dC, dI) cy A [(ax, .inr (0, [.ref axn, .ref axg, .ref axc])), (axn, .inr (2, [.ref axnd, .int vxns])), (axnd, .inl (cy, 8, .inl res)), (ao, .inr (2, [.ref aod, .int vos])), (aod, .inl (cy, 8, .inl fod))]) A) (([.ref ax, .ref ao] : List Value).toArray) s 0 0 A) (F0 m 2 ls []) := by
    intro n
    induction n with
    | zero =>
      intro l2 fxnd rs H locs ls h
      rw [fX0_mirror_L2_0] at h
      cases h
    | succ n ih =>
      intro l2 fxnd rs H locs ls h hl hP hD hS K
      rw [fX0_mirror_L2_s] at h
      refine lv_iload_n hx hb dX0_mirror_2 rfl (lv_at hl 2 rfl) ?_
      refine lv_aload_n hx hb dX0_mirror_3 rfl (lv_at hl 1 rfl) ?_
      refine va_getN (D := (dC, dI)) (ci := 2) (v := .int vos) (C := RX2) (T := TX2) (N := 2) hx hb hts hin_X2 hown hK hP 3 rfl rfl 1 (by decide) (va_Nw.use rfl (hN.2.2.2.2.1)) (fun _ h9 => h9) rfl dX0_mirror_4 ?_
      refine lv_icmp_ge (tgt := 47) hx hb dX0_mirror_7 (by decide) (fun c1 => ?_) (fun c1 => ?_)
      · rw [if_pos c1] at h
        have h0 := Option.some.inj h
        subst h0
        exact K H locs ls (lv_sub hl [0, 1, 2] rfl) hP hD hS
      · rw [if_neg c1] at h
        refine lv_aload_n hx hb dX0_mirror_10 rfl (lv_at hl 0 rfl) ?_
        refine va_get (D := (dC, dI)) (ci := 0) (v := .ref axn) (C := RX0) (T := TX0) (N := 3) hx hb hts hin_X0 hown hK hP 0 rfl rfl 0 (by decide) (hf_12) (fun _ h9 => h9) rfl dX0_mirror_11 ?_
        refine va_getN (D := (dC, dI)) (ci := 2) (v := .ref axnd) (C := RX2) (T := TX2) (N := 2) hx hb hts hin_X2 hown hK hP 1 rfl rfl 0 (by decide) (va_Nw.use rfl (hN.2.2.2.2.2.1)) (fun _ h9 => h9) rfl dX0_mirror_14 ?_
        refine lv_iload_n hx hb dX0_mirror_17 rfl (lv_at hl 2 rfl) ?_
        refine lv_aload_n hx hb dX0_mirror_18 rfl (lv_at hl 1 rfl) ?_
        refine va_getN (D := (dC, dI)) (ci := 2) (v := .ref aod) (C := RX2) (T := TX2) (N := 2) hx hb hts hin_X2 hown hK hP 3 rfl rfl 0 (by decide) (va_Nw.use rfl (hN.2.2.2.2.2.1)) (fun _ h9 => h9) rfl dX0_mirror_19 ?_
        refine lv_iload_n hx hb dX0_mirror_22 rfl (lv_at hl 2 rfl) ?_
        obtain ⟨hi, h⟩ := gin_some h
        refine va_iald hx hb hK hP 4 0 rfl rfl hi dX0_mirror_23 ?_
        refine lv_aload_n hx hb dX0_mirror_24 rfl (lv_at hl 1 rfl) ?_
        refine va_getN (D := (dC, dI)) (ci := 2) (v := .ref aod) (C := RX2) (T := TX2) (N := 2) hx hb hts hin_X2 hown hK hP 3 rfl rfl 0 (by decide) (va_Nw.use rfl (hN.2.2.2.2.2.1)) (fun _ h9 => h9) rfl dX0_mirror_25 ?_
        refine lv_aload_n hx hb dX0_mirror_28 rfl (lv_at hl 1 rfl) ?_
        refine va_getN (D := (dC, dI)) (ci := 2) (v := .int vos) (C := RX2) (T := TX2) (N := 2) hx hb hts hin_X2 hown hK hP 3 rfl rfl 1 (by decide) (va_Nw.use rfl (hN.2.2.2.2.1)) (fun _ h9 => h9) rfl dX0_mirror_29 ?_
        refine lv_iconst (v := (1 : Int32)) hx hb dX0_mirror_32 (by decide) ?_
        refine lv_isub hx hb dX0_mirror_33 ?_
        refine lv_iload_n hx hb dX0_mirror_34 rfl (lv_at hl 2 rfl) ?_
        refine lv_isub hx hb dX0_mirror_35 ?_
        obtain ⟨hi, h⟩ := gin_some h
        refine va_iald hx hb hK hP 4 0 rfl rfl hi dX0_mirror_36 ?_
        refine va_mmin hx hb (by rw [hml]; exact hl.1.symm) hown (hts (.methodLink RX0 59 Lib.Math.min.name) (by decide +kernel)) (hts (.static Lib.Math.min.name) (by decide +kernel)) (hts (.initialized "java/lang/Math") (by decide +kernel)) (hts (.code Lib.Math.min.name Lib.Math.min.code 2 (some .int)) (by decide +kernel)) (Nat.le_of_ble_eq_true rfl) (Nat.le_of_ble_eq_true rfl) (Nat.zero_le _) (Nat.zero_le _) dX0_mirror_37 ?_
        obtain ⟨hi, h⟩ := gin_some h
        refine va_iast hx hb hK hP hD hS 2 0 rfl rfl hi dX0_mirror_40 (fun H locs hP hD hS => ?_)
        replace hP : va_P (dC, dI) vwCl [(ax, .inr (0, [.ref axn, .ref axg, .ref axc])), (axn, .inr (2, [.ref axnd, .int vxns])), (axnd, .inl (cy, 8, .inl (upd fxnd l2.toNatClampNeg (if (fod ((vos - (1 : Int32)) - l2).toNatClampNeg) < (fod l2.toNatClampNeg) then (fod ((vos - (1 : Int32)) - l2).toNatClampNeg) else (fod l2.toNatClampNeg))))), (ao, .inr (2, [.ref aod, .int vos])), (aod, .inl (cy, 8, .inl fod))] H := hP
        replace hD : va_D A [(ax, .inr (0, [.ref axn, .ref axg, .ref axc])), (axn, .inr (2, [.ref axnd, .int vxns])), (axnd, .inl (cy, 8, .inl (upd fxnd l2.toNatClampNeg (if (fod ((vos - (1 : Int32)) - l2).toNatClampNeg) < (fod l2.toNatClampNeg) then (fod ((vos - (1 : Int32)) - l2).toNatClampNeg) else (fod l2.toNatClampNeg))))), (ao, .inr (2, [.ref aod, .int vos])), (aod, .inl (cy, 8, .inl fod))] := hD
        refine lv_iinc (v := l2 + (1 : Int32)) (lv' := [(2, .int (l2 + (1 : Int32))), (0, .ref ax), (1, .ref ao)]) hx hb dX0_mirror_41 hl (k := 2) rfl rfl (by decide) rfl (fun ls hl => ?_)
        refine lv_goto (tgt := 2) hx hb dX0_mirror_44 (by decide) ?_
        exact ih (l2 + (1 : Int32)) (upd fxnd l2.toNatClampNeg (if (fod ((vos - (1 : Int32)) - l2).toNatClampNeg) < (fod l2.toNatClampNeg) then (fod ((vos - (1 : Int32)) - l2).toNatClampNeg) else (fod l2.toNatClampNeg))) rs H locs ls h (lv_sub hl [1, 2, 0] rfl) hP hD hS K
  obtain ⟨q3, hq3, h⟩ := bd_some h
  refine L2_1 FU (0 : Int32) fxnd q3 H locs ls hq3 (lv_sub hl [1, 2, 0] rfl) hP hD hS (fun H locs ls hl hP hD hS => ?_)
  have h0 := Option.some.inj h
  subst h0
  exact W.vret hx hb hr (fun t ht hW => ⟨⟨(), rfl, trivial, QW_mk hP hK hD ht hW⟩, hS.F ht⟩) hS.2.2 dX0_mirror_47

noncomputable def fX0_makeEven_L15 (n : Nat) (l1 : Int32) (vxns : Int32) (fxnd : Nat → Int32) : Option (((Nat → Int32)) ⊕ (Int32 × (Nat → Int32))) := match n with
  | 0 => none
  | n + 1 => if vxns ≤ l1 then (some (.inr (l1, fxnd))) else (gin l1 8 (if (fxnd l1.toNatClampNeg) ≤ 0 then (fX0_makeEven_L15 n (l1 + (1 : Int32)) vxns fxnd) else (gin l1 8 (if (fxnd l1.toNatClampNeg) = (2 : Int32) then (gin l1 8 (some (.inl (upd fxnd l1.toNatClampNeg (1 : Int32))))) else (gin l1 8 (some (.inl (upd fxnd l1.toNatClampNeg (0 : Int32)))))))))
theorem fX0_makeEven_L15_0 (l1 : Int32) (vxns : Int32) (fxnd : Nat → Int32) : fX0_makeEven_L15 0 l1 vxns fxnd = none := rfl
theorem fX0_makeEven_L15_s (n : Nat) (l1 : Int32) (vxns : Int32) (fxnd : Nat → Int32) : fX0_makeEven_L15 (n + 1) l1 vxns fxnd = if vxns ≤ l1 then (some (.inr (l1, fxnd))) else (gin l1 8 (if (fxnd l1.toNatClampNeg) ≤ 0 then (fX0_makeEven_L15 n (l1 + (1 : Int32)) vxns fxnd) else (gin l1 8 (if (fxnd l1.toNatClampNeg) = (2 : Int32) then (gin l1 8 (some (.inl (upd fxnd l1.toNatClampNeg (1 : Int32))))) else (gin l1 8 (some (.inl (upd fxnd l1.toNatClampNeg (0 : Int32))))))))) := rfl
noncomputable def fX0_makeEven (vxns : Int32) (fxnd : Nat → Int32)  : Option ((Nat → Int32)) := bd (fX2_total vxns fxnd) fun r1 => if (r1 - r1 / (2 : Int32) * (2 : Int32)) = 0 then (some fxnd) else (bs (fX0_makeEven_L15 FU (0 : Int32) vxns fxnd) fun q6 => some q6.2)
set_option maxHeartbeats 4000000 in
set_option maxRecDepth 100000 in
theorem c_X0_makeEven (l : Launch) (dC : Nat → ClassId) (dI : Nat → Nat → Nat) (cy : ClassId) (ax axn axg axc axnd : Nat) (sz : Nat) (vxns : Int32) (fxnd : Nat → Int32)  (res : (Nat → Int32)) (h : fX0_makeEven vxns fxnd = some res) : Met l yX0_makeEven wsX0_makeEven ({ frames := 1, cells := 0, slots := 0, locals := 22 }) (va_Pc [.ref ax] (PW (dC, dI) cy sz [(ax, .inr (0, [.ref axn, .ref axg, .ref axc])), (axn, .inr (2, [.ref axnd, .int vxns])), (axnd, .inl (cy, 8, .inl fxnd))])) (va_Qv (fun (_ : Unit) => True) (QW (dC, dI) cy (va_A [(ax, .inr (0, [.ref axn, .ref axg, .ref axc])), (axn, .inr (2, [.ref axnd, .int vxns])), (axnd, .inl (cy, 8, .inl fxnd))] sz) [(ax, .inr (0, [.ref axn, .ref axg, .ref axc])), (axn, .inr (2, [.ref axnd, .int vxns])), (axnd, .inl (cy, 8, .inl res))]) (va_A [(ax, .inr (0, [.ref axn, .ref axg, .ref axc])), (axn, .inr (2, [.ref axnd, .int vxns])), (axnd, .inl (cy, 8, .inl fxnd))] sz)) 0 0 (va_A [(ax, .inr (0, [.ref axn, .ref axg, .ref axc])), (axn, .inr (2, [.ref axnd, .int vxns])), (axnd, .inl (cy, 8, .inl fxnd))] sz) := by
  refine Met.ofW (cc := cX0_makeEven) (maxL := 2) (ret := none) (by decide) rfl ?_
  intro p e s m args below meth c s₁ B hml hv
  obtain ⟨rfl, hsz, hP, hK, hD0, hN⟩ := hv
  have hx := B.exec
  have hb := B.bytes
  have hr := B.returns
  have hts := atoms_spec (ws := wsX0_makeEven) B.pre
  have hown : s.vm.findClass RX0 = some m.cls := findClass_of_methodNamed B.named
  have hlocks := B.notSynchronized
  subst hsz
  have hD := hD0.self (sz := s.heap.size)
  clear hD0
  generalize hAe : va_A [(ax, .inr (0, [.ref axn, .ref axg, .ref axc])), (axn, .inr (2, [.ref axnd, .int vxns])), (axnd, .inl (cy, 8, .inl fxnd))] s.heap.size = A at hD ⊢
  have hA : ∀ q : Nat, s.heap.size ≤ q → A q := fun q h => by rw [← hAe]; exact Or.inr h
  have hS : va_S A s.heap s.heap [] := va_S.rf
  have hl := lv_entry ([.ref ax]) (n := 2) (Nat.le_of_ble_eq_true rfl)
  rw [lg_entry_eq]
  generalize (lg_sl ([.ref ax]) ++ List.replicate (2 - (lg_sl ([.ref ax])).length) Slot.unset).toArray = ls at hl ⊢
  replace hl : lv_has ls 2 [(0, .ref ax)] := hl
  replace hP : va_P (dC, dI) vwCl [(ax, .inr (0, [.ref axn, .ref axg, .ref axc])), (axn, .inr (2, [.ref axnd, .int vxns])), (axnd, .inl (cy, 8, .inl fxnd))] s.heap := hP
  obtain ⟨locs, hlocs⟩ : ∃ lc : List Loc, lc = [] := ⟨_, rfl⟩
  rw [← hlocs] at hS ⊢
  obtain ⟨H, hH⟩ : ∃ H : Heap, H = s.heap := ⟨_, rfl⟩
  have hP2 := hP; rw [← hH] at hP2
  have hS2 : va_S A s.heap H locs := by rw [hH]; exact hS
  suffices hgo : W p l e (headSpec wsX0_makeEven ({ frames := 1, cells := 0, slots := 0, locals := 22 })).room s m (([.ref ax] : List Value).toArray) below meth c H locs 0 0 (MQ below (va_Qv (fun (_ : Unit) => True) (QW (dC, dI) cy A [(ax, .inr (0, [.ref axn, .ref axg, .ref axc])), (axn, .inr (2, [.ref axnd, .int vxns])), (axnd, .inl (cy, 8, .inl res))]) A) (([.ref ax] : List Value).toArray) s 0 0 A) (F0 m 0 ls []) by rw [hH] at hgo; exact hgo
  replace hP := hP2
  replace hS := hS2
  clear hP2 hS2
  have hin_X0 : ∀ w ∈ wsX00, w ∈ wsX0_makeEven := by decide +kernel
  have hin_X2 : ∀ w ∈ wsX20, w ∈ wsX0_makeEven := by decide +kernel
  have hf_12 := hts (.fieldLink RX0 12 "FewLooks$Mender" "near" "LFewLooks$Row;") (by decide +kernel)
  unfold fX0_makeEven at h
  refine lv_aload_n hx hb dX0_makeEven_0 rfl (lv_at hl 0 rfl) ?_
  refine va_get (D := (dC, dI)) (ci := 0) (v := .ref axn) (C := RX0) (T := TX0) (N := 3) hx hb hts hin_X0 hown hK hP 0 rfl rfl 0 (by decide) (hf_12) (fun _ h9 => h9) rfl dX0_makeEven_1 ?_
  obtain ⟨r1, hr1, h⟩ := bd_some h
  have hFc := va_free (wc := [(axn, .inr (2, [.ref axnd, .int vxns])), (axnd, .inl (cy, 8, .inl fxnd))]) hD hS hA [1, 2] rfl
  refine va_calli (va_runV (As := []) (rest := []) ⟨hx, hb, hml, hown, hts⟩ (c_X2_total l dC dI cy axn axnd H.size vxns fxnd  r1 hr1) (cwV 0 hts gX0_makeEven_X2_total rfl rfl rfl (by decide +kernel) ⟨Nat.le_of_ble_eq_true rfl, Nat.le_of_ble_eq_true rfl⟩) ⟨PW_fb, va_recv hK hP (ci := 2) (q0 := 1) rfl rfl, PW_pre (hP.sub (ws' := [(axn, .inr (2, [.ref axnd, .int vxns])), (axnd, .inl (cy, 8, .inl fxnd))]) [1, 2] rfl) hK (hD.sub [1, 2] (by decide) rfl) hN⟩ rfl rfl hl.1 rfl (lv_room (Nat.le_of_ble_eq_true rfl)) dX0_makeEven_4 ⟨Nat.zero_le _, Nat.zero_le _⟩) hS (fun q _ h => hFc q h) hFc (fun rz u t H locs ht hvm hw hB hz1 hk1 hS => ?_)
  obtain ⟨hP, hD⟩ := jn (wr := [(ax, .inr (0, [.ref axn, .ref axg, .ref axc]))]) (w1 := [(axn, .inr (2, [.ref axnd, .int vxns])), (axnd, .inl (cy, 8, .inl fxnd))]) (ws' := [(ax, .inr (0, [.ref axn, .ref axg, .ref axc])), (axn, .inr (2, [.ref axnd, .int vxns])), (axnd, .inl (cy, 8, .inl fxnd))]) hP hD [1, 2] [0] rfl rfl (by decide) (by decide) hk1 hFc hB ht [0, 1, 2] rfl (by decide) rfl
  replace hw := hw.symm
  subst hw
  clear hFc hB hk1 hz1 hvm
  refine lv_iconst (v := (2 : Int32)) hx hb dX0_makeEven_7 (by decide) ?_
  refine lv_irem hx hb dX0_makeEven_8 (by decide) ?_
  refine lv_if_ne (tgt := 13) hx hb dX0_makeEven_9 (by decide) (fun c7 => ?_) (fun c7 => ?_)
  · rw [if_neg c7] at h
    refine lv_iconst (v := (0 : Int32)) hx hb dX0_makeEven_13 (by decide) ?_
    refine lv_istore_n (lv' := [(1, .int (0 : Int32)), (0, .ref ax)]) hx hb dX0_makeEven_14 rfl hl (by decide) rfl (fun ls hl => ?_)
    have L15_4 : ∀ (n : Nat) (l1 : Int32) (fxnd : Nat → Int32) (rs : (((Nat → Int32)) ⊕ (Int32 × (Nat → Int32)))) (H : Heap) (locs : List Loc) (ls : Array Slot), fX0_makeEven_L15 n l1 vxns fxnd = some rs → lv_has ls 2 [(0, .ref ax), (1, .int l1)] → va_P (dC, dI) vwCl [(ax, .inr (0, [.ref axn, .ref axg, .ref axc])), (axn, .inr (2, [.ref axnd, .int vxns])), (axnd, .inl (cy, 8, .inl fxnd))] H → va_D A [(ax, .inr (0, [.ref axn, .ref axg, .ref axc])), (axn, .inr (2, [.ref axnd, .int vxns])), (axnd, .inl (cy, 8, .inl fxnd))] → va_S A s.heap H locs → (∀ q, rs = .inl q → q = res) → (∀ q, rs = .inr q → (∀ (H : Heap) (locs : List Loc) (ls : Array Slot), lv_has ls 2 [(0, .ref ax), (1, .int q.1)] → va_P (dC, dI) vwCl [(ax, .inr (0, [.ref axn, .ref axg, .ref axc])), (axn, .inr (2, [.ref axnd, .int vxns])), (axnd, .inl (cy, 8, .inl q.2))] H → va_D A [(ax, .inr (0, [.ref axn, .ref axg, .ref axc])), (axn, .inr (2, [.ref axnd, .int vxns])), (axnd, .inl (cy, 8, .inl q.2))] → va_S A s.heap H locs → W p l e (headSpec wsX0_makeEven ({ frames := 1, cells := 0, slots := 0, locals := 22 })).room s m (([.ref ax] : List Value).toArray) below meth c H locs 0 0 (MQ below (va_Qv (fun (_ : Unit) => True) (QW (dC, dI) cy A [(ax, .inr (0, [.ref axn, .ref axg, .ref axc])), (axn, .inr (2, [.ref axnd, .int vxns])), (axnd, .inl (cy, 8, .inl res))]) A) (([.ref ax] : List Value).toArray) s 0 0 A) (F0 m 72 ls []))) → W p l e (headSpec wsX0_makeEven ({ frames := 1, cells := 0, slots := 0, locals := 22 })).room s m (([.ref ax] : List Value).toArray) below meth c H locs 0 0 (MQ below (va_Qv (fun (_ : Unit) => True) (QW (dC, dI) cy A [(ax, .inr (0, [.ref axn, .ref axg, .ref axc])), (axn, .inr (2, [.ref axnd, .int vxns])), (axnd, .inl (cy, 8, .inl res))]) A) (([.ref ax] : List Value).toArray) s 0 0 A) (F0 m 15 ls []) := by
      intro n
      induction n with
      | zero =>
        intro l1 fxnd rs H locs ls h
        rw [fX0_makeEven_L15_0] at h
        cases h
      | succ n ih =>
        intro l1 fxnd rs H locs ls h hl hP hD hS kr kx
        rw [fX0_makeEven_L15_s] at h
        refine lv_iload_n hx hb dX0_makeEven_15 rfl (lv_at hl 1 rfl) ?_
        refine lv_aload_n hx hb dX0_makeEven_16 rfl (lv_at hl 0 rfl) ?_
        refine va_get (D := (dC, dI)) (ci := 0) (v := .ref axn) (C := RX0) (T := TX0) (N := 3) hx hb hts hin_X0 hown hK hP 0 rfl rfl 0 (by decide) (hf_12) (fun _ h9 => h9) rfl dX0_makeEven_17 ?_
        refine va_getN (D := (dC, dI)) (ci := 2) (v := .int vxns) (C := RX2) (T := TX2) (N := 2) hx hb hts hin_X2 hown hK hP 1 rfl rfl 1 (by decide) (va_Nw.use rfl (hN.2.2.2.2.1)) (fun _ h9 => h9) rfl dX0_makeEven_20 ?_
        refine lv_icmp_ge (tgt := 72) hx hb dX0_makeEven_23 (by decide) (fun c4 => ?_) (fun c4 => ?_)
        · rw [if_pos c4] at h
          have h0 := Option.some.inj h
          subst h0
          exact kx _ rfl H locs ls (lv_sub hl [0, 1] rfl) hP hD hS
        · rw [if_neg c4] at h
          refine lv_aload_n hx hb dX0_makeEven_26 rfl (lv_at hl 0 rfl) ?_
          refine va_get (D := (dC, dI)) (ci := 0) (v := .ref axn) (C := RX0) (T := TX0) (N := 3) hx hb hts hin_X0 hown hK hP 0 rfl rfl 0 (by decide) (hf_12) (fun _ h9 => h9) rfl dX0_makeEven_27 ?_
          refine va_getN (D := (dC, dI)) (ci := 2) (v := .ref axnd) (C := RX2) (T := TX2) (N := 2) hx hb hts hin_X2 hown hK hP 1 rfl rfl 0 (by decide) (va_Nw.use rfl (hN.2.2.2.2.2.1)) (fun _ h9 => h9) rfl dX0_makeEven_30 ?_
          refine lv_iload_n hx hb dX0_makeEven_33 rfl (lv_at hl 1 rfl) ?_
          obtain ⟨hi, h⟩ := gin_some h
          refine va_iald hx hb hK hP 2 0 rfl rfl hi dX0_makeEven_34 ?_
          refine lv_if_le (tgt := 66) hx hb dX0_makeEven_35 (by decide) (fun c3 => ?_) (fun c3 => ?_)
          · rw [if_pos c3] at h
            refine lv_iinc (v := l1 + (1 : Int32)) (lv' := [(1, .int (l1 + (1 : Int32))), (0, .ref ax)]) hx hb dX0_makeEven_66 hl (k := 1) rfl rfl (by decide) rfl (fun ls hl => ?_)
            refine lv_goto (tgt := 15) hx hb dX0_makeEven_69 (by decide) ?_
            exact ih (l1 + (1 : Int32)) fxnd rs H locs ls h (lv_sub hl [1, 0] rfl) hP hD hS kr kx
          · rw [if_neg c3] at h
            refine lv_aload_n hx hb dX0_makeEven_38 rfl (lv_at hl 0 rfl) ?_
            refine va_get (D := (dC, dI)) (ci := 0) (v := .ref axn) (C := RX0) (T := TX0) (N := 3) hx hb hts hin_X0 hown hK hP 0 rfl rfl 0 (by decide) (hf_12) (fun _ h9 => h9) rfl dX0_makeEven_39 ?_
            refine va_getN (D := (dC, dI)) (ci := 2) (v := .ref axnd) (C := RX2) (T := TX2) (N := 2) hx hb hts hin_X2 hown hK hP 1 rfl rfl 0 (by decide) (va_Nw.use rfl (hN.2.2.2.2.2.1)) (fun _ h9 => h9) rfl dX0_makeEven_42 ?_
            refine lv_iload_n hx hb dX0_makeEven_45 rfl (lv_at hl 1 rfl) ?_
            refine lv_aload_n hx hb dX0_makeEven_46 rfl (lv_at hl 0 rfl) ?_
            refine va_get (D := (dC, dI)) (ci := 0) (v := .ref axn) (C := RX0) (T := TX0) (N := 3) hx hb hts hin_X0 hown hK hP 0 rfl rfl 0 (by decide) (hf_12) (fun _ h9 => h9) rfl dX0_makeEven_47 ?_
            refine va_getN (D := (dC, dI)) (ci := 2) (v := .ref axnd) (C := RX2) (T := TX2) (N := 2) hx hb hts hin_X2 hown hK hP 1 rfl rfl 0 (by decide) (va_Nw.use rfl (hN.2.2.2.2.2.1)) (fun _ h9 => h9) rfl dX0_makeEven_50 ?_
            refine lv_iload_n hx hb dX0_makeEven_53 rfl (lv_at hl 1 rfl) ?_
            obtain ⟨hi, h⟩ := gin_some h
            refine va_iald hx hb hK hP 2 0 rfl rfl hi dX0_makeEven_54 ?_
            refine lv_iconst (v := (2 : Int32)) hx hb dX0_makeEven_55 (by decide) ?_
            refine lv_icmp_ne (tgt := 63) hx hb dX0_makeEven_56 (by decide) (fun c2 => ?_) (fun c2 => ?_)
            · rw [if_neg c2] at h
              refine lv_iconst (v := (0 : Int32)) hx hb dX0_makeEven_63 (by decide) ?_
              obtain ⟨hi, h⟩ := gin_some h
              refine va_iast hx hb hK hP hD hS 2 0 rfl rfl hi dX0_makeEven_64 (fun H locs hP hD hS => ?_)
              replace hP : va_P (dC, dI) vwCl [(ax, .inr (0, [.ref axn, .ref axg, .ref axc])), (axn, .inr (2, [.ref axnd, .int vxns])), (axnd, .inl (cy, 8, .inl (upd fxnd l1.toNatClampNeg (0 : Int32))))] H := hP
              replace hD : va_D A [(ax, .inr (0, [.ref axn, .ref axg, .ref axc])), (axn, .inr (2, [.ref axnd, .int vxns])), (axnd, .inl (cy, 8, .inl (upd fxnd l1.toNatClampNeg (0 : Int32))))] := hD
              have h0 := Option.some.inj h
              subst h0
              have hk := kr _ rfl
              subst hk
              exact W.vret hx hb hr (fun t ht hW => ⟨⟨(), rfl, trivial, QW_mk hP hK hD ht hW⟩, hS.F ht⟩) hS.2.2 dX0_makeEven_65
            · rw [if_pos c2] at h
              refine lv_iconst (v := (1 : Int32)) hx hb dX0_makeEven_59 (by decide) ?_
              refine lv_goto (tgt := 64) hx hb dX0_makeEven_60 (by decide) ?_
              obtain ⟨hi, h⟩ := gin_some h
              refine va_iast hx hb hK hP hD hS 2 0 rfl rfl hi dX0_makeEven_64 (fun H locs hP hD hS => ?_)
              replace hP : va_P (dC, dI) vwCl [(ax, .inr (0, [.ref axn, .ref axg, .ref axc])), (axn, .inr (2, [.ref axnd, .int vxns])), (axnd, .inl (cy, 8, .inl (upd fxnd l1.toNatClampNeg (1 : Int32))))] H := hP
              replace hD : va_D A [(ax, .inr (0, [.ref axn, .ref axg, .ref axc])), (axn, .inr (2, [.ref axnd, .int vxns])), (axnd, .inl (cy, 8, .inl (upd fxnd l1.toNatClampNeg (1 : Int32))))] := hD
              have h0 := Option.some.inj h
              subst h0
              have hk := kr _ rfl
              subst hk
              exact W.vret hx hb hr (fun t ht hW => ⟨⟨(), rfl, trivial, QW_mk hP hK hD ht hW⟩, hS.F ht⟩) hS.2.2 dX0_makeEven_65
    obtain ⟨rq6, hq6, kq6, xq6⟩ := bs_some h
    refine L15_4 FU (0 : Int32) fxnd rq6 H locs ls hq6 (lv_sub hl [1, 0] rfl) hP hD hS kq6 (fun q6 eq6 H locs ls hl hP hD hS => ?_)
    replace h := xq6 q6 eq6
    have h0 := Option.some.inj h
    subst h0
    exact W.vret hx hb hr (fun t ht hW => ⟨⟨(), rfl, trivial, QW_mk hP hK hD ht hW⟩, hS.F ht⟩) hS.2.2 dX0_makeEven_72
  · rw [if_pos c7] at h
    have h0 := Option.some.inj h
    subst h0
    exact W.vret hx hb hr (fun t ht hW => ⟨⟨(), rfl, trivial, QW_mk hP hK hD ht hW⟩, hS.F ht⟩) hS.2.2 dX0_makeEven_12

noncomputable def fX0_commonest_L20 (n : Nat) (l1 : Int32) (l2 : Int32) (l5 : Int32) (l6 : Int32) (l7 : Int32) (vos : Int32) (fod : Nat → Int32) : Option (Int32 × Int32) := match n with
  | 0 => none
  | n + 1 => if (8 : Int32) ≤ l7 then (some (l6, l7)) else (if vos ≤ (l1 + (l7 * l2)) then (fX0_commonest_L20 n l1 l2 l5 l6 (l7 + (1 : Int32)) vos fod) else (gin (l1 + (l7 * l2)) 8 (if (fod (l1 + (l7 * l2)).toNatClampNeg) = l5 then (fX0_commonest_L20 n l1 l2 l5 (l6 + (1 : Int32)) (l7 + (1 : Int32)) vos fod) else (fX0_commonest_L20 n l1 l2 l5 l6 (l7 + (1 : Int32)) vos fod))))
theorem fX0_commonest_L20_0 (l1 : Int32) (l2 : Int32) (l5 : Int32) (l6 : Int32) (l7 : Int32) (vos : Int32) (fod : Nat → Int32) : fX0_commonest_L20 0 l1 l2 l5 l6 l7 vos fod = none := rfl
theorem fX0_commonest_L20_s (n : Nat) (l1 : Int32) (l2 : Int32) (l5 : Int32) (l6 : Int32) (l7 : Int32) (vos : Int32) (fod : Nat → Int32) : fX0_commonest_L20 (n + 1) l1 l2 l5 l6 l7 vos fod = if (8 : Int32) ≤ l7 then (some (l6, l7)) else (if vos ≤ (l1 + (l7 * l2)) then (fX0_commonest_L20 n l1 l2 l5 l6 (l7 + (1 : Int32)) vos fod) else (gin (l1 + (l7 * l2)) 8 (if (fod (l1 + (l7 * l2)).toNatClampNeg) = l5 then (fX0_commonest_L20 n l1 l2 l5 (l6 + (1 : Int32)) (l7 + (1 : Int32)) vos fod) else (fX0_commonest_L20 n l1 l2 l5 l6 (l7 + (1 : Int32)) vos fod)))) := rfl
noncomputable def fX0_commonest_L8 (n : Nat) (l1 : Int32) (l2 : Int32) (l3 : Int32) (l4 : Int32) (l5 : Int32) (vos : Int32) (fod : Nat → Int32) : Option (Int32 × Int32 × Int32) := match n with
  | 0 => none
  | n + 1 => if (4 : Int32) ≤ l5 then (some (l3, l4, l5)) else (bd (fX0_commonest_L20 FU l1 l2 l5 (0 : Int32) (0 : Int32) vos fod) fun q5 => if q5.1 ≤ l4 then (fX0_commonest_L8 n l1 l2 l3 l4 (l5 + (1 : Int32)) vos fod) else (fX0_commonest_L8 n l1 l2 l5 q5.1 (l5 + (1 : Int32)) vos fod))
theorem fX0_commonest_L8_0 (l1 : Int32) (l2 : Int32) (l3 : Int32) (l4 : Int32) (l5 : Int32) (vos : Int32) (fod : Nat → Int32) : fX0_commonest_L8 0 l1 l2 l3 l4 l5 vos fod = none := rfl
theorem fX0_commonest_L8_s (n : Nat) (l1 : Int32) (l2 : Int32) (l3 : Int32) (l4 : Int32) (l5 : Int32) (vos : Int32) (fod : Nat → Int32) : fX0_commonest_L8 (n + 1) l1 l2 l3 l4 l5 vos fod = if (4 : Int32) ≤ l5 then (some (l3, l4, l5)) else (bd (fX0_commonest_L20 FU l1 l2 l5 (0 : Int32) (0 : Int32) vos fod) fun q5 => if q5.1 ≤ l4 then (fX0_commonest_L8 n l1 l2 l3 l4 (l5 + (1 : Int32)) vos fod) else (fX0_commonest_L8 n l1 l2 l5 q5.1 (l5 + (1 : Int32)) vos fod)) := rfl
noncomputable def fX0_commonest (vos : Int32) (fod : Nat → Int32) (p1 : Int32) (p2 : Int32) : Option (Int32) := bd (fX0_commonest_L8 FU p1 p2 (0 : Int32) (0 : Int32) (0 : Int32) vos fod) fun q9 => some q9.1
set_option maxHeartbeats 4000000 in
set_option maxRecDepth 100000 in
theorem c_X0_commonest (l : Launch) (dC : Nat → ClassId) (dI : Nat → Nat → Nat) (cy : ClassId) (ao aod : Nat) (sz : Nat) (vos : Int32) (fod : Nat → Int32) (p1 : Int32) (p2 : Int32) (res : Int32) (h : fX0_commonest vos fod p1 p2 = some res) : Met l yX0_commonest wsX0_commonest ({ frames := 0, cells := 0, slots := 0, locals := 0 }) (va_Pc [.ref ao, .int p1, .int p2] (PW (dC, dI) cy sz [(ao, .inr (2, [.ref aod, .int vos])), (aod, .inl (cy, 8, .inl fod))])) (va_Qi (fun (r : Int32) (_ : Unit) => r = res) (QW (dC, dI) cy (va_A [(ao, .inr (2, [.ref aod, .int vos])), (aod, .inl (cy, 8, .inl fod))] sz) [(ao, .inr (2, [.ref aod, .int vos])), (aod, .inl (cy, 8, .inl fod))]) (va_A [(ao, .inr (2, [.ref aod, .int vos])), (aod, .inl (cy, 8, .inl fod))] sz)) 0 0 (va_A [(ao, .inr (2, [.ref aod, .int vos])), (aod, .inl (cy, 8, .inl fod))] sz) := by
  refine Met.ofW (cc := cX0_commonest) (maxL := 9) (ret := (some .int)) (by decide) rfl ?_
  intro p e s m args below meth c s₁ B hml hv
  obtain ⟨rfl, hsz, hP, hK, hD0, hN⟩ := hv
  have hx := B.exec
  have hb := B.bytes
  have hr := B.returns
  have hts := atoms_spec (ws := wsX0_commonest) B.pre
  have hown : s.vm.findClass RX0 = some m.cls := findClass_of_methodNamed B.named
  have hlocks := B.notSynchronized
  subst hsz
  have hD := hD0.self (sz := s.heap.size)
  clear hD0
  generalize hAe : va_A [(ao, .inr (2, [.ref aod, .int vos])), (aod, .inl (cy, 8, .inl fod))] s.heap.size = A at hD ⊢
  have hA : ∀ q : Nat, s.heap.size ≤ q → A q := fun q h => by rw [← hAe]; exact Or.inr h
  have hS : va_S A s.heap s.heap [] := va_S.rf
  have hl := lv_entry ([.ref ao, .int p1, .int p2]) (n := 9) (Nat.le_of_ble_eq_true rfl)
  rw [lg_entry_eq]
  generalize (lg_sl ([.ref ao, .int p1, .int p2]) ++ List.replicate (9 - (lg_sl ([.ref ao, .int p1, .int p2])).length) Slot.unset).toArray = ls at hl ⊢
  replace hl : lv_has ls 9 [(0, .ref ao), (1, .int p1), (2, .int p2)] := hl
  replace hP : va_P (dC, dI) vwCl [(ao, .inr (2, [.ref aod, .int vos])), (aod, .inl (cy, 8, .inl fod))] s.heap := hP
  obtain ⟨locs, hlocs⟩ : ∃ lc : List Loc, lc = [] := ⟨_, rfl⟩
  rw [← hlocs] at hS ⊢
  obtain ⟨H, hH⟩ : ∃ H : Heap, H = s.heap := ⟨_, rfl⟩
  have hP2 := hP; rw [← hH] at hP2
  have hS2 : va_S A s.heap H locs := by rw [hH]; exact hS
  suffices hgo : W p l e (headSpec wsX0_commonest ({ frames := 0, cells := 0, slots := 0, locals := 0 })).room s m (([.ref ao, .int p1, .int p2] : List Value).toArray) below meth c H locs 0 0 (MQ below (va_Qi (fun (r : Int32) (_ : Unit) => r = res) (QW (dC, dI) cy A [(ao, .inr (2, [.ref aod, .int vos])), (aod, .inl (cy, 8, .inl fod))]) A) (([.ref ao, .int p1, .int p2] : List Value).toArray) s 0 0 A) (F0 m 0 ls []) by rw [hH] at hgo; exact hgo
  replace hP := hP2
  replace hS := hS2
  clear hP2 hS2
  have hin_X2 : ∀ w ∈ wsX20, w ∈ wsX0_commonest := by decide +kernel
  unfold fX0_commonest at h
  refine lv_iconst (v := (0 : Int32)) hx hb dX0_commonest_0 (by decide) ?_
  refine lv_istore_n (lv' := [(3, .int (0 : Int32)), (0, .ref ao), (1, .int p1), (2, .int p2)]) hx hb dX0_commonest_1 rfl hl (by decide) rfl (fun ls hl => ?_)
  refine lv_iconst (v := (0 : Int32)) hx hb dX0_commonest_2 (by decide) ?_
  refine lv_istore (lv' := [(4, .int (0 : Int32)), (3, .int (0 : Int32)), (0, .ref ao), (1, .int p1), (2, .int p2)]) hx hb dX0_commonest_3 hl (by decide) rfl (fun ls hl => ?_)
  refine lv_iconst (v := (0 : Int32)) hx hb dX0_commonest_5 (by decide) ?_
  refine lv_istore (lv' := [(5, .int (0 : Int32)), (4, .int (0 : Int32)), (3, .int (0 : Int32)), (0, .ref ao), (1, .int p1), (2, .int p2)]) hx hb dX0_commonest_6 hl (by decide) rfl (fun ls hl => ?_)
  have L8_7 : ∀ (n : Nat) (l1 : Int32) (l2 : Int32) (l3 : Int32) (l4 : Int32) (l5 : Int32) (rs : (Int32 × Int32 × Int32)) (H : Heap) (locs : List Loc) (ls : Array Slot), fX0_commonest_L8 n l1 l2 l3 l4 l5 vos fod = some rs → lv_has ls 9 [(0, .ref ao), (1, .int l1), (2, .int l2), (3, .int l3), (4, .int l4), (5, .int l5)] → va_P (dC, dI) vwCl [(ao, .inr (2, [.ref aod, .int vos])), (aod, .inl (cy, 8, .inl fod))] H → va_D A [(ao, .inr (2, [.ref aod, .int vos])), (aod, .inl (cy, 8, .inl fod))] → va_S A s.heap H locs → (∀ (H : Heap) (locs : List Loc) (ls : Array Slot), lv_has ls 9 [(0, .ref ao), (1, .int l1), (2, .int l2), (3, .int rs.1), (4, .int rs.2.1), (5, .int rs.2.2)] → va_P (dC, dI) vwCl [(ao, .inr (2, [.ref aod, .int vos])), (aod, .inl (cy, 8, .inl fod))] H → va_D A [(ao, .inr (2, [.ref aod, .int vos])), (aod, .inl (cy, 8, .inl fod))] → va_S A s.heap H locs → W p l e (headSpec wsX0_commonest ({ frames := 0, cells := 0, slots := 0, locals := 0 })).room s m (([.ref ao, .int p1, .int p2] : List Value).toArray) below meth c H locs 0 0 (MQ below (va_Qi (fun (r : Int32) (_ : Unit) => r = res) (QW (dC, dI) cy A [(ao, .inr (2, [.ref aod, .int vos])), (aod, .inl (cy, 8, .inl fod))]) A) (([.ref ao, .int p1, .int p2] : List Value).toArray) s 0 0 A) (F0 m 85 ls [])) → W p l e (headSpec wsX0_commonest ({ frames := 0, cells := 0, slots := 0, locals := 0 })).room s m (([.ref ao, .int p1, .int p2] : List Value).toArray) below meth c H locs 0 0 (MQ below (va_Qi (fun (r : Int32) (_ : Unit) => r = res) (QW (dC, dI) cy A [(ao, .inr (2, [.ref aod, .int vos])), (aod, .inl (cy, 8, .inl fod))]) A) (([.ref ao, .int p1, .int p2] : List Value).toArray) s 0 0 A) (F0 m 8 ls []) := by
    intro n
    induction n with
    | zero =>
      intro l1 l2 l3 l4 l5 rs H locs ls h
      rw [fX0_commonest_L8_0] at h
      cases h
    | succ n ih =>
      intro l1 l2 l3 l4 l5 rs H locs ls h hl hP hD hS K
      rw [fX0_commonest_L8_s] at h
      refine lv_iload hx hb dX0_commonest_8 (lv_at hl 5 rfl) ?_
      refine lv_iconst (v := (4 : Int32)) hx hb dX0_commonest_10 (by decide) ?_
      refine lv_icmp_ge (tgt := 85) hx hb dX0_commonest_11 (by decide) (fun c7 => ?_) (fun c7 => ?_)
      · rw [if_pos c7] at h
        have h0 := Option.some.inj h
        subst h0
        exact K H locs ls (lv_sub hl [0, 1, 2, 3, 4, 5] rfl) hP hD hS
      · rw [if_neg c7] at h
        refine lv_iconst (v := (0 : Int32)) hx hb dX0_commonest_14 (by decide) ?_
        refine lv_istore (lv' := [(6, .int (0 : Int32)), (0, .ref ao), (1, .int l1), (2, .int l2), (3, .int l3), (4, .int l4), (5, .int l5)]) hx hb dX0_commonest_15 hl (by decide) rfl (fun ls hl => ?_)
        refine lv_iconst (v := (0 : Int32)) hx hb dX0_commonest_17 (by decide) ?_
        refine lv_istore (lv' := [(7, .int (0 : Int32)), (6, .int (0 : Int32)), (0, .ref ao), (1, .int l1), (2, .int l2), (3, .int l3), (4, .int l4), (5, .int l5)]) hx hb dX0_commonest_18 hl (by decide) rfl (fun ls hl => ?_)
        have L20_3 : ∀ (n : Nat) (l1 : Int32) (l2 : Int32) (l3 : Int32) (l4 : Int32) (l5 : Int32) (l6 : Int32) (l7 : Int32) (rs : (Int32 × Int32)) (H : Heap) (locs : List Loc) (ls : Array Slot), fX0_commonest_L20 n l1 l2 l5 l6 l7 vos fod = some rs → lv_has ls 9 [(0, .ref ao), (1, .int l1), (2, .int l2), (3, .int l3), (4, .int l4), (5, .int l5), (6, .int l6), (7, .int l7)] → va_P (dC, dI) vwCl [(ao, .inr (2, [.ref aod, .int vos])), (aod, .inl (cy, 8, .inl fod))] H → va_D A [(ao, .inr (2, [.ref aod, .int vos])), (aod, .inl (cy, 8, .inl fod))] → va_S A s.heap H locs → (∀ (H : Heap) (locs : List Loc) (ls : Array Slot), lv_has ls 9 [(0, .ref ao), (1, .int l1), (2, .int l2), (3, .int l3), (4, .int l4), (5, .int l5), (6, .int rs.1), (7, .int rs.2)] → va_P (dC, dI) vwCl [(ao, .inr (2, [.ref aod, .int vos])), (aod, .inl (cy, 8, .inl fod))] H → va_D A [(ao, .inr (2, [.ref aod, .int vos])), (aod, .inl (cy, 8, .inl fod))] → va_S A s.heap H locs → W p l e (headSpec wsX0_commonest ({ frames := 0, cells := 0, slots := 0, locals := 0 })).room s m (([.ref ao, .int p1, .int p2] : List Value).toArray) below meth c H locs 0 0 (MQ below (va_Qi (fun (r : Int32) (_ : Unit) => r = res) (QW (dC, dI) cy A [(ao, .inr (2, [.ref aod, .int vos])), (aod, .inl (cy, 8, .inl fod))]) A) (([.ref ao, .int p1, .int p2] : List Value).toArray) s 0 0 A) (F0 m 65 ls [])) → W p l e (headSpec wsX0_commonest ({ frames := 0, cells := 0, slots := 0, locals := 0 })).room s m (([.ref ao, .int p1, .int p2] : List Value).toArray) below meth c H locs 0 0 (MQ below (va_Qi (fun (r : Int32) (_ : Unit) => r = res) (QW (dC, dI) cy A [(ao, .inr (2, [.ref aod, .int vos])), (aod, .inl (cy, 8, .inl fod))]) A) (([.ref ao, .int p1, .int p2] : List Value).toArray) s 0 0 A) (F0 m 20 ls []) := by
          intro n
          induction n with
          | zero =>
            intro l1 l2 l3 l4 l5 l6 l7 rs H locs ls h
            rw [fX0_commonest_L20_0] at h
            cases h
          | succ n ih =>
            intro l1 l2 l3 l4 l5 l6 l7 rs H locs ls h hl hP hD hS K
            rw [fX0_commonest_L20_s] at h
            refine lv_iload hx hb dX0_commonest_20 (lv_at hl 7 rfl) ?_
            refine lv_bipush (v := (8 : Int32)) hx hb dX0_commonest_22 (by decide) ?_
            refine lv_icmp_ge (tgt := 65) hx hb dX0_commonest_24 (by decide) (fun c3 => ?_) (fun c3 => ?_)
            · rw [if_pos c3] at h
              have h0 := Option.some.inj h
              subst h0
              exact K H locs ls (lv_sub hl [0, 1, 2, 3, 4, 5, 6, 7] rfl) hP hD hS
            · rw [if_neg c3] at h
              refine lv_iload_n hx hb dX0_commonest_27 rfl (lv_at hl 1 rfl) ?_
              refine lv_iload hx hb dX0_commonest_28 (lv_at hl 7 rfl) ?_
              refine lv_iload_n hx hb dX0_commonest_30 rfl (lv_at hl 2 rfl) ?_
              refine lv_imul hx hb dX0_commonest_31 ?_
              refine lv_iadd hx hb dX0_commonest_32 ?_
              refine lv_istore (lv' := [(8, .int (l1 + (l7 * l2))), (0, .ref ao), (1, .int l1), (2, .int l2), (3, .int l3), (4, .int l4), (5, .int l5), (6, .int l6), (7, .int l7)]) hx hb dX0_commonest_33 hl (by decide) rfl (fun ls hl => ?_)
              refine lv_iload hx hb dX0_commonest_35 (lv_at hl 0 rfl) ?_
              refine lv_aload_n hx hb dX0_commonest_37 rfl (lv_at hl 1 rfl) ?_
              refine va_getN (D := (dC, dI)) (ci := 2) (v := .int vos) (C := RX2) (T := TX2) (N := 2) hx hb hts hin_X2 hown hK hP 0 rfl rfl 1 (by decide) (va_Nw.use rfl (hN.2.2.2.2.1)) (fun _ h9 => h9) rfl dX0_commonest_38 ?_
              refine lv_icmp_ge (tgt := 59) hx hb dX0_commonest_41 (by decide) (fun c2 => ?_) (fun c2 => ?_)
              · rw [if_pos c2] at h
                refine lv_iinc (v := l7 + (1 : Int32)) (lv' := [(7, .int (l7 + (1 : Int32))), (8, .int (l1 + (l7 * l2))), (0, .ref ao), (1, .int l1), (2, .int l2), (3, .int l3), (4, .int l4), (5, .int l5), (6, .int l6)]) hx hb dX0_commonest_59 hl (k := 8) rfl rfl (by decide) rfl (fun ls hl => ?_)
                refine lv_goto (tgt := 20) hx hb dX0_commonest_62 (by decide) ?_
                exact ih l1 l2 l3 l4 l5 l6 (l7 + (1 : Int32)) rs H locs ls h (lv_sub hl [2, 3, 4, 5, 6, 7, 8, 0] rfl) hP hD hS K
              · rw [if_neg c2] at h
                refine lv_aload_n hx hb dX0_commonest_44 rfl (lv_at hl 1 rfl) ?_
                refine va_getN (D := (dC, dI)) (ci := 2) (v := .ref aod) (C := RX2) (T := TX2) (N := 2) hx hb hts hin_X2 hown hK hP 0 rfl rfl 0 (by decide) (va_Nw.use rfl (hN.2.2.2.2.2.1)) (fun _ h9 => h9) rfl dX0_commonest_45 ?_
                refine lv_iload hx hb dX0_commonest_48 (lv_at hl 0 rfl) ?_
                obtain ⟨hi, h⟩ := gin_some h
                refine va_iald hx hb hK hP 1 0 rfl rfl hi dX0_commonest_50 ?_
                refine lv_iload hx hb dX0_commonest_51 (lv_at hl 6 rfl) ?_
                refine lv_icmp_ne (tgt := 59) hx hb dX0_commonest_53 (by decide) (fun c1 => ?_) (fun c1 => ?_)
                · rw [if_neg c1] at h
                  refine lv_iinc (v := l7 + (1 : Int32)) (lv' := [(7, .int (l7 + (1 : Int32))), (8, .int (l1 + (l7 * l2))), (0, .ref ao), (1, .int l1), (2, .int l2), (3, .int l3), (4, .int l4), (5, .int l5), (6, .int l6)]) hx hb dX0_commonest_59 hl (k := 8) rfl rfl (by decide) rfl (fun ls hl => ?_)
                  refine lv_goto (tgt := 20) hx hb dX0_commonest_62 (by decide) ?_
                  exact ih l1 l2 l3 l4 l5 l6 (l7 + (1 : Int32)) rs H locs ls h (lv_sub hl [2, 3, 4, 5, 6, 7, 8, 0] rfl) hP hD hS K
                · rw [if_pos c1] at h
                  refine lv_iinc (v := l6 + (1 : Int32)) (lv' := [(6, .int (l6 + (1 : Int32))), (8, .int (l1 + (l7 * l2))), (0, .ref ao), (1, .int l1), (2, .int l2), (3, .int l3), (4, .int l4), (5, .int l5), (7, .int l7)]) hx hb dX0_commonest_56 hl (k := 7) rfl rfl (by decide) rfl (fun ls hl => ?_)
                  refine lv_iinc (v := l7 + (1 : Int32)) (lv' := [(7, .int (l7 + (1 : Int32))), (6, .int (l6 + (1 : Int32))), (8, .int (l1 + (l7 * l2))), (0, .ref ao), (1, .int l1), (2, .int l2), (3, .int l3), (4, .int l4), (5, .int l5)]) hx hb dX0_commonest_59 hl (k := 8) rfl rfl (by decide) rfl (fun ls hl => ?_)
                  refine lv_goto (tgt := 20) hx hb dX0_commonest_62 (by decide) ?_
                  exact ih l1 l2 l3 l4 l5 (l6 + (1 : Int32)) (l7 + (1 : Int32)) rs H locs ls h (lv_sub hl [3, 4, 5, 6, 7, 8, 1, 0] rfl) hP hD hS K
        obtain ⟨q5, hq5, h⟩ := bd_some h
        refine L20_3 FU l1 l2 l3 l4 l5 (0 : Int32) (0 : Int32) q5 H locs ls hq5 (lv_sub hl [2, 3, 4, 5, 6, 7, 1, 0] rfl) hP hD hS (fun H locs ls hl hP hD hS => ?_)
        refine lv_iload hx hb dX0_commonest_65 (lv_at hl 6 rfl) ?_
        refine lv_iload hx hb dX0_commonest_67 (lv_at hl 4 rfl) ?_
        refine lv_icmp_le (tgt := 79) hx hb dX0_commonest_69 (by decide) (fun c6 => ?_) (fun c6 => ?_)
        · rw [if_pos c6] at h
          refine lv_iinc (v := l5 + (1 : Int32)) (lv' := [(5, .int (l5 + (1 : Int32))), (0, .ref ao), (1, .int l1), (2, .int l2), (3, .int l3), (4, .int l4), (6, .int q5.1), (7, .int q5.2)]) hx hb dX0_commonest_79 hl (k := 5) rfl rfl (by decide) rfl (fun ls hl => ?_)
          refine lv_goto (tgt := 8) hx hb dX0_commonest_82 (by decide) ?_
          exact ih l1 l2 l3 l4 (l5 + (1 : Int32)) rs H locs ls h (lv_sub hl [1, 2, 3, 4, 5, 0] rfl) hP hD hS K
        · rw [if_neg c6] at h
          refine lv_iload hx hb dX0_commonest_72 (lv_at hl 6 rfl) ?_
          refine lv_istore (lv' := [(4, .int q5.1), (0, .ref ao), (1, .int l1), (2, .int l2), (3, .int l3), (5, .int l5), (6, .int q5.1), (7, .int q5.2)]) hx hb dX0_commonest_74 hl (by decide) rfl (fun ls hl => ?_)
          refine lv_iload hx hb dX0_commonest_76 (lv_at hl 5 rfl) ?_
          refine lv_istore_n (lv' := [(3, .int l5), (4, .int q5.1), (0, .ref ao), (1, .int l1), (2, .int l2), (5, .int l5), (6, .int q5.1), (7, .int q5.2)]) hx hb dX0_commonest_78 rfl hl (by decide) rfl (fun ls hl => ?_)
          refine lv_iinc (v := l5 + (1 : Int32)) (lv' := [(5, .int (l5 + (1 : Int32))), (3, .int l5), (4, .int q5.1), (0, .ref ao), (1, .int l1), (2, .int l2), (6, .int q5.1), (7, .int q5.2)]) hx hb dX0_commonest_79 hl (k := 5) rfl rfl (by decide) rfl (fun ls hl => ?_)
          refine lv_goto (tgt := 8) hx hb dX0_commonest_82 (by decide) ?_
          exact ih l1 l2 l5 q5.1 (l5 + (1 : Int32)) rs H locs ls h (lv_sub hl [3, 4, 5, 1, 2, 0] rfl) hP hD hS K
  obtain ⟨q9, hq9, h⟩ := bd_some h
  refine L8_7 FU p1 p2 (0 : Int32) (0 : Int32) (0 : Int32) q9 H locs ls hq9 (lv_sub hl [3, 4, 5, 2, 1, 0] rfl) hP hD hS (fun H locs ls hl hP hD hS => ?_)
  refine lv_iload_n hx hb dX0_commonest_85 rfl (lv_at hl 3 rfl) ?_
  have h0 := Option.some.inj h
  subst h0
  exact W.iret hx hb hr (fun t ht hW => ⟨⟨_, (), rfl, rfl, QW_mk hP hK hD ht hW⟩, hS.F ht⟩) hS.2.2 dX0_commonest_86

noncomputable def fX0_guessPeriod_L10 (n : Nat) (l2 : Int32) (l3 : Int32) (fxgd : Nat → Int32) (vos : Int32) (fod : Nat → Int32) : Option (Int32 × (Nat → Int32)) := match n with
  | 0 => none
  | n + 1 => if vos ≤ l3 then (some (l3, fxgd)) else (if l2 ≤ l3 then (gin (l3 - l2) 8 (gin l3 8 (fX0_guessPeriod_L10 n l2 (l3 + (1 : Int32)) (upd fxgd l3.toNatClampNeg (fxgd (l3 - l2).toNatClampNeg)) vos fod))) else (bd (fX0_commonest vos fod l3 l2) fun r2 => gin l3 8 (fX0_guessPeriod_L10 n l2 (l3 + (1 : Int32)) (upd fxgd l3.toNatClampNeg r2) vos fod)))
theorem fX0_guessPeriod_L10_0 (l2 : Int32) (l3 : Int32) (fxgd : Nat → Int32) (vos : Int32) (fod : Nat → Int32) : fX0_guessPeriod_L10 0 l2 l3 fxgd vos fod = none := rfl
theorem fX0_guessPeriod_L10_s (n : Nat) (l2 : Int32) (l3 : Int32) (fxgd : Nat → Int32) (vos : Int32) (fod : Nat → Int32) : fX0_guessPeriod_L10 (n + 1) l2 l3 fxgd vos fod = if vos ≤ l3 then (some (l3, fxgd)) else (if l2 ≤ l3 then (gin (l3 - l2) 8 (gin l3 8 (fX0_guessPeriod_L10 n l2 (l3 + (1 : Int32)) (upd fxgd l3.toNatClampNeg (fxgd (l3 - l2).toNatClampNeg)) vos fod))) else (bd (fX0_commonest vos fod l3 l2) fun r2 => gin l3 8 (fX0_guessPeriod_L10 n l2 (l3 + (1 : Int32)) (upd fxgd l3.toNatClampNeg r2) vos fod))) := rfl
noncomputable def fX0_guessPeriod (vxgs : Int32) (fxgd : Nat → Int32) (vos : Int32) (fod : Nat → Int32) (p1 : Int32) : Option (Int32 × (Nat → Int32)) := bd (fX2_become vxgs fxgd vos fod) fun r1 => bd (fX0_guessPeriod_L10 FU p1 (0 : Int32) r1.2 vos fod) fun q6 => some (r1.1, q6.2)
set_option maxHeartbeats 4000000 in
set_option maxRecDepth 100000 in
theorem c_X0_guessPeriod (l : Launch) (dC : Nat → ClassId) (dI : Nat → Nat → Nat) (cy : ClassId) (ax axn axg axc axgd ao aod : Nat) (sz : Nat) (vxgs : Int32) (fxgd : Nat → Int32) (vos : Int32) (fod : Nat → Int32) (p1 : Int32) (res : Int32 × (Nat → Int32)) (h : fX0_guessPeriod vxgs fxgd vos fod p1 = some res) : Met l yX0_guessPeriod wsX0_guessPeriod ({ frames := 1, cells := 0, slots := 0, locals := 28 }) (va_Pc [.ref ax, .ref ao, .int p1] (PW (dC, dI) cy sz [(ax, .inr (0, [.ref axn, .ref axg, .ref axc])), (axg, .inr (2, [.ref axgd, .int vxgs])), (axgd, .inl (cy, 8, .inl fxgd)), (ao, .inr (2, [.ref aod, .int vos])), (aod, .inl (cy, 8, .inl fod))])) (va_Qv (fun (_ : Unit) => True) (QW (dC, dI) cy (va_A [(ax, .inr (0, [.ref axn, .ref axg, .ref axc])), (axg, .inr (2, [.ref axgd, .int vxgs])), (axgd, .inl (cy, 8, .inl fxgd)), (ao, .inr (2, [.ref aod, .int vos])), (aod, .inl (cy, 8, .inl fod))] sz) [(ax, .inr (0, [.ref axn, .ref axg, .ref axc])), (axg, .inr (2, [.ref axgd, .int res.1])), (axgd, .inl (cy, 8, .inl res.2)), (ao, .inr (2, [.ref aod, .int vos])), (aod, .inl (cy, 8, .inl fod))]) (va_A [(ax, .inr (0, [.ref axn, .ref axg, .ref axc])), (axg, .inr (2, [.ref axgd, .int vxgs])), (axgd, .inl (cy, 8, .inl fxgd)), (ao, .inr (2, [.ref aod, .int vos])), (aod, .inl (cy, 8, .inl fod))] sz)) 0 0 (va_A [(ax, .inr (0, [.ref axn, .ref axg, .ref axc])), (axg, .inr (2, [.ref axgd, .int vxgs])), (axgd, .inl (cy, 8, .inl fxgd)), (ao, .inr (2, [.ref aod, .int vos])), (aod, .inl (cy, 8, .inl fod))] sz) := by
  refine Met.ofW (cc := cX0_guessPeriod) (maxL := 4) (ret := none) (by decide) rfl ?_
  intro p e s m args below meth c s₁ B hml hv
  obtain ⟨rfl, hsz, hP, hK, hD0, hN⟩ := hv
  have hx := B.exec
  have hb := B.bytes
  have hr := B.returns
  have hts := atoms_spec (ws := wsX0_guessPeriod) B.pre
  have hown : s.vm.findClass RX0 = some m.cls := findClass_of_methodNamed B.named
  have hlocks := B.notSynchronized
  subst hsz
  have hD := hD0.self (sz := s.heap.size)
  clear hD0
  generalize hAe : va_A [(ax, .inr (0, [.ref axn, .ref axg, .ref axc])), (axg, .inr (2, [.ref axgd, .int vxgs])), (axgd, .inl (cy, 8, .inl fxgd)), (ao, .inr (2, [.ref aod, .int vos])), (aod, .inl (cy, 8, .inl fod))] s.heap.size = A at hD ⊢
  have hA : ∀ q : Nat, s.heap.size ≤ q → A q := fun q h => by rw [← hAe]; exact Or.inr h
  have hS : va_S A s.heap s.heap [] := va_S.rf
  have hl := lv_entry ([.ref ax, .ref ao, .int p1]) (n := 4) (Nat.le_of_ble_eq_true rfl)
  rw [lg_entry_eq]
  generalize (lg_sl ([.ref ax, .ref ao, .int p1]) ++ List.replicate (4 - (lg_sl ([.ref ax, .ref ao, .int p1])).length) Slot.unset).toArray = ls at hl ⊢
  replace hl : lv_has ls 4 [(0, .ref ax), (1, .ref ao), (2, .int p1)] := hl
  replace hP : va_P (dC, dI) vwCl [(ax, .inr (0, [.ref axn, .ref axg, .ref axc])), (axg, .inr (2, [.ref axgd, .int vxgs])), (axgd, .inl (cy, 8, .inl fxgd)), (ao, .inr (2, [.ref aod, .int vos])), (aod, .inl (cy, 8, .inl fod))] s.heap := hP
  obtain ⟨locs, hlocs⟩ : ∃ lc : List Loc, lc = [] := ⟨_, rfl⟩
  rw [← hlocs] at hS ⊢
  obtain ⟨H, hH⟩ : ∃ H : Heap, H = s.heap := ⟨_, rfl⟩
  have hP2 := hP; rw [← hH] at hP2
  have hS2 : va_S A s.heap H locs := by rw [hH]; exact hS
  suffices hgo : W p l e (headSpec wsX0_guessPeriod ({ frames := 1, cells := 0, slots := 0, locals := 28 })).room s m (([.ref ax, .ref ao, .int p1] : List Value).toArray) below meth c H locs 0 0 (MQ below (va_Qv (fun (_ : Unit) => True) (QW (dC, dI) cy A [(ax, .inr (0, [.ref axn, .ref axg, .ref axc])), (axg, .inr (2, [.ref axgd, .int res.1])), (axgd, .inl (cy, 8, .inl res.2)), (ao, .inr (2, [.ref aod, .int vos])), (aod, .inl (cy, 8, .inl fod))]) A) (([.ref ax, .ref ao, .int p1] : List Value).toArray) s 0 0 A) (F0 m 0 ls []) by rw [hH] at hgo; exact hgo
  replace hP := hP2
  replace hS := hS2
  clear hP2 hS2
  have hin_X0 : ∀ w ∈ wsX00, w ∈ wsX0_guessPeriod := by decide +kernel
  have hin_X2 : ∀ w ∈ wsX20, w ∈ wsX0_guessPeriod := by decide +kernel
  have hf_18 := hts (.fieldLink RX0 18 "FewLooks$Mender" "guess" "LFewLooks$Row;") (by decide +kernel)
  unfold fX0_guessPeriod at h
  refine lv_aload_n hx hb dX0_guessPeriod_0 rfl (lv_at hl 0 rfl) ?_
  refine va_get (D := (dC, dI)) (ci := 0) (v := .ref axg) (C := RX0) (T := TX0) (N := 3) hx hb hts hin_X0 hown hK hP 0 rfl rfl 1 (by decide) (hf_18) (fun _ h9 => h9) rfl dX0_guessPeriod_1 ?_
  refine lv_aload_n hx hb dX0_guessPeriod_4 rfl (lv_at hl 1 rfl) ?_
  obtain ⟨r1, hr1, h⟩ := bd_some h
  have hFc := va_free (wc := [(axg, .inr (2, [.ref axgd, .int vxgs])), (axgd, .inl (cy, 8, .inl fxgd)), (ao, .inr (2, [.ref aod, .int vos])), (aod, .inl (cy, 8, .inl fod))]) hD hS hA [1, 2, 3, 4] rfl
  refine va_callv (va_runV (As := [.ref ao]) (rest := []) ⟨hx, hb, hml, hown, hts⟩ (c_X2_become l dC dI cy axg axgd ao aod H.size vxgs fxgd vos fod  r1 hr1) (cwV 1 hts gX0_guessPeriod_X2_become rfl rfl rfl (by decide +kernel) ⟨Nat.le_of_ble_eq_true rfl, Nat.le_of_ble_eq_true rfl⟩) ⟨PW_fb, va_recv hK hP (ci := 2) (q0 := 1) rfl rfl, PW_pre (hP.sub (ws' := [(axg, .inr (2, [.ref axgd, .int vxgs])), (axgd, .inl (cy, 8, .inl fxgd)), (ao, .inr (2, [.ref aod, .int vos])), (aod, .inl (cy, 8, .inl fod))]) [1, 2, 3, 4] rfl) hK (hD.sub [1, 2, 3, 4] (by decide) rfl) hN⟩ rfl rfl hl.1 rfl (lv_room (Nat.le_of_ble_eq_true rfl)) dX0_guessPeriod_5 ⟨Nat.zero_le _, Nat.zero_le _⟩) hS (fun q _ h => hFc q h) hFc (fun u t H locs ht hvm hw hB hz1 hk1 hS => ?_)
  obtain ⟨hP, hD⟩ := jn (wr := [(ax, .inr (0, [.ref axn, .ref axg, .ref axc]))]) (w1 := [(axg, .inr (2, [.ref axgd, .int r1.1])), (axgd, .inl (cy, 8, .inl r1.2)), (ao, .inr (2, [.ref aod, .int vos])), (aod, .inl (cy, 8, .inl fod))]) (ws' := [(ax, .inr (0, [.ref axn, .ref axg, .ref axc])), (axg, .inr (2, [.ref axgd, .int r1.1])), (axgd, .inl (cy, 8, .inl r1.2)), (ao, .inr (2, [.ref aod, .int vos])), (aod, .inl (cy, 8, .inl fod))]) hP hD [1, 2, 3, 4] [0] rfl rfl (by decide) (by decide) hk1 hFc hB ht [0, 1, 2, 3, 4] rfl (by decide) rfl
  clear hFc hB hk1 hz1 hvm
  refine lv_iconst (v := (0 : Int32)) hx hb dX0_guessPeriod_8 (by decide) ?_
  refine lv_istore_n (lv' := [(3, .int (0 : Int32)), (0, .ref ax), (1, .ref ao), (2, .int p1)]) hx hb dX0_guessPeriod_9 rfl hl (by decide) rfl (fun ls hl => ?_)
  have L10_4 : ∀ (n : Nat) (l2 : Int32) (l3 : Int32) (vxgs : Int32) (fxgd : Nat → Int32) (rs : (Int32 × (Nat → Int32))) (H : Heap) (locs : List Loc) (ls : Array Slot), fX0_guessPeriod_L10 n l2 l3 fxgd vos fod = some rs → lv_has ls 4 [(0, .ref ax), (1, .ref ao), (2, .int l2), (3, .int l3)] → va_P (dC, dI) vwCl [(ax, .inr (0, [.ref axn, .ref axg, .ref axc])), (axg, .inr (2, [.ref axgd, .int vxgs])), (axgd, .inl (cy, 8, .inl fxgd)), (ao, .inr (2, [.ref aod, .int vos])), (aod, .inl (cy, 8, .inl fod))] H → va_D A [(ax, .inr (0, [.ref axn, .ref axg, .ref axc])), (axg, .inr (2, [.ref axgd, .int vxgs])), (axgd, .inl (cy, 8, .inl fxgd)), (ao, .inr (2, [.ref aod, .int vos])), (aod, .inl (cy, 8, .inl fod))] → va_S A s.heap H locs → (∀ (H : Heap) (locs : List Loc) (ls : Array Slot), lv_has ls 4 [(0, .ref ax), (1, .ref ao), (2, .int l2), (3, .int rs.1)] → va_P (dC, dI) vwCl [(ax, .inr (0, [.ref axn, .ref axg, .ref axc])), (axg, .inr (2, [.ref axgd, .int vxgs])), (axgd, .inl (cy, 8, .inl rs.2)), (ao, .inr (2, [.ref aod, .int vos])), (aod, .inl (cy, 8, .inl fod))] H → va_D A [(ax, .inr (0, [.ref axn, .ref axg, .ref axc])), (axg, .inr (2, [.ref axgd, .int vxgs])), (axgd, .inl (cy, 8, .inl rs.2)), (ao, .inr (2, [.ref aod, .int vos])), (aod, .inl (cy, 8, .inl fod))] → va_S A s.heap H locs → W p l e (headSpec wsX0_guessPeriod ({ frames := 1, cells := 0, slots := 0, locals := 28 })).room s m (([.ref ax, .ref ao, .int p1] : List Value).toArray) below meth c H locs 0 0 (MQ below (va_Qv (fun (_ : Unit) => True) (QW (dC, dI) cy A [(ax, .inr (0, [.ref axn, .ref axg, .ref axc])), (axg, .inr (2, [.ref axgd, .int res.1])), (axgd, .inl (cy, 8, .inl res.2)), (ao, .inr (2, [.ref aod, .int vos])), (aod, .inl (cy, 8, .inl fod))]) A) (([.ref ax, .ref ao, .int p1] : List Value).toArray) s 0 0 A) (F0 m 58 ls [])) → W p l e (headSpec wsX0_guessPeriod ({ frames := 1, cells := 0, slots := 0, locals := 28 })).room s m (([.ref ax, .ref ao, .int p1] : List Value).toArray) below meth c H locs 0 0 (MQ below (va_Qv (fun (_ : Unit) => True) (QW (dC, dI) cy A [(ax, .inr (0, [.ref axn, .ref axg, .ref axc])), (axg, .inr (2, [.ref axgd, .int res.1])), (axgd, .inl (cy, 8, .inl res.2)), (ao, .inr (2, [.ref aod, .int vos])), (aod, .inl (cy, 8, .inl fod))]) A) (([.ref ax, .ref ao, .int p1] : List Value).toArray) s 0 0 A) (F0 m 10 ls []) := by
    intro n
    induction n with
    | zero =>
      intro l2 l3 vxgs fxgd rs H locs ls h
      rw [fX0_guessPeriod_L10_0] at h
      cases h
    | succ n ih =>
      intro l2 l3 vxgs fxgd rs H locs ls h hl hP hD hS K
      rw [fX0_guessPeriod_L10_s] at h
      refine lv_iload_n hx hb dX0_guessPeriod_10 rfl (lv_at hl 3 rfl) ?_
      refine lv_aload_n hx hb dX0_guessPeriod_11 rfl (lv_at hl 1 rfl) ?_
      refine va_getN (D := (dC, dI)) (ci := 2) (v := .int vos) (C := RX2) (T := TX2) (N := 2) hx hb hts hin_X2 hown hK hP 3 rfl rfl 1 (by decide) (va_Nw.use rfl (hN.2.2.2.2.1)) (fun _ h9 => h9) rfl dX0_guessPeriod_12 ?_
      refine lv_icmp_ge (tgt := 58) hx hb dX0_guessPeriod_15 (by decide) (fun c4 => ?_) (fun c4 => ?_)
      · rw [if_pos c4] at h
        have h0 := Option.some.inj h
        subst h0
        exact K H locs ls (lv_sub hl [0, 1, 2, 3] rfl) hP hD hS
      · rw [if_neg c4] at h
        refine lv_aload_n hx hb dX0_guessPeriod_18 rfl (lv_at hl 0 rfl) ?_
        refine va_get (D := (dC, dI)) (ci := 0) (v := .ref axg) (C := RX0) (T := TX0) (N := 3) hx hb hts hin_X0 hown hK hP 0 rfl rfl 1 (by decide) (hf_18) (fun _ h9 => h9) rfl dX0_guessPeriod_19 ?_
        refine va_getN (D := (dC, dI)) (ci := 2) (v := .ref axgd) (C := RX2) (T := TX2) (N := 2) hx hb hts hin_X2 hown hK hP 1 rfl rfl 0 (by decide) (va_Nw.use rfl (hN.2.2.2.2.2.1)) (fun _ h9 => h9) rfl dX0_guessPeriod_22 ?_
        refine lv_iload_n hx hb dX0_guessPeriod_25 rfl (lv_at hl 3 rfl) ?_
        refine lv_iload_n hx hb dX0_guessPeriod_26 rfl (lv_at hl 3 rfl) ?_
        refine lv_iload_n hx hb dX0_guessPeriod_27 rfl (lv_at hl 2 rfl) ?_
        refine lv_icmp_ge (tgt := 40) hx hb dX0_guessPeriod_28 (by decide) (fun c3 => ?_) (fun c3 => ?_)
        · rw [if_pos c3] at h
          refine lv_aload_n hx hb dX0_guessPeriod_40 rfl (lv_at hl 0 rfl) ?_
          refine va_get (D := (dC, dI)) (ci := 0) (v := .ref axg) (C := RX0) (T := TX0) (N := 3) hx hb hts hin_X0 hown hK hP 0 rfl rfl 1 (by decide) (hf_18) (fun _ h9 => h9) rfl dX0_guessPeriod_41 ?_
          refine va_getN (D := (dC, dI)) (ci := 2) (v := .ref axgd) (C := RX2) (T := TX2) (N := 2) hx hb hts hin_X2 hown hK hP 1 rfl rfl 0 (by decide) (va_Nw.use rfl (hN.2.2.2.2.2.1)) (fun _ h9 => h9) rfl dX0_guessPeriod_44 ?_
          refine lv_iload_n hx hb dX0_guessPeriod_47 rfl (lv_at hl 3 rfl) ?_
          refine lv_iload_n hx hb dX0_guessPeriod_48 rfl (lv_at hl 2 rfl) ?_
          refine lv_isub hx hb dX0_guessPeriod_49 ?_
          obtain ⟨hi, h⟩ := gin_some h
          refine va_iald hx hb hK hP 2 0 rfl rfl hi dX0_guessPeriod_50 ?_
          obtain ⟨hi, h⟩ := gin_some h
          refine va_iast hx hb hK hP hD hS 2 0 rfl rfl hi dX0_guessPeriod_51 (fun H locs hP hD hS => ?_)
          replace hP : va_P (dC, dI) vwCl [(ax, .inr (0, [.ref axn, .ref axg, .ref axc])), (axg, .inr (2, [.ref axgd, .int vxgs])), (axgd, .inl (cy, 8, .inl (upd fxgd l3.toNatClampNeg (fxgd (l3 - l2).toNatClampNeg)))), (ao, .inr (2, [.ref aod, .int vos])), (aod, .inl (cy, 8, .inl fod))] H := hP
          replace hD : va_D A [(ax, .inr (0, [.ref axn, .ref axg, .ref axc])), (axg, .inr (2, [.ref axgd, .int vxgs])), (axgd, .inl (cy, 8, .inl (upd fxgd l3.toNatClampNeg (fxgd (l3 - l2).toNatClampNeg)))), (ao, .inr (2, [.ref aod, .int vos])), (aod, .inl (cy, 8, .inl fod))] := hD
          refine lv_iinc (v := l3 + (1 : Int32)) (lv' := [(3, .int (l3 + (1 : Int32))), (0, .ref ax), (1, .ref ao), (2, .int l2)]) hx hb dX0_guessPeriod_52 hl (k := 3) rfl rfl (by decide) rfl (fun ls hl => ?_)
          refine lv_goto (tgt := 10) hx hb dX0_guessPeriod_55 (by decide) ?_
          exact ih l2 (l3 + (1 : Int32)) vxgs (upd fxgd l3.toNatClampNeg (fxgd (l3 - l2).toNatClampNeg)) rs H locs ls h (lv_sub hl [1, 2, 3, 0] rfl) hP hD hS K
        · rw [if_neg c3] at h
          refine lv_aload_n hx hb dX0_guessPeriod_31 rfl (lv_at hl 1 rfl) ?_
          refine lv_iload_n hx hb dX0_guessPeriod_32 rfl (lv_at hl 3 rfl) ?_
          refine lv_iload_n hx hb dX0_guessPeriod_33 rfl (lv_at hl 2 rfl) ?_
          obtain ⟨r2, hr2, h⟩ := bd_some h
          have hFc := va_free (wc := [(ao, .inr (2, [.ref aod, .int vos])), (aod, .inl (cy, 8, .inl fod))]) hD hS hA [3, 4] rfl
          refine va_calli (va_runS (As := [.ref ao, .int l3, .int l2]) (rest := [.int l3, .ref axgd]) ⟨hx, hb, hml, hown, hts⟩ (c_X0_commonest l dC dI cy ao aod H.size vos fod l3 l2 r2 hr2) (va_cwS 3 hts gX0_guessPeriod_X0_commonest rfl rfl rfl (by decide +kernel) ⟨Nat.le_of_ble_eq_true rfl, Nat.le_of_ble_eq_true rfl⟩) ⟨PW_fb, PW_pre (hP.sub (ws' := [(ao, .inr (2, [.ref aod, .int vos])), (aod, .inl (cy, 8, .inl fod))]) [3, 4] rfl) hK (hD.sub [3, 4] (by decide) rfl) hN⟩ rfl rfl hl.1 rfl (lv_room (Nat.le_of_ble_eq_true rfl)) dX0_guessPeriod_34 ⟨Nat.zero_le _, Nat.zero_le _⟩) hS (fun q _ h => hFc q h) hFc (fun rz u t H locs ht hvm hw hB hz1 hk1 hS => ?_)
          obtain ⟨hP, hD⟩ := jn (wr := [(ax, .inr (0, [.ref axn, .ref axg, .ref axc])), (axg, .inr (2, [.ref axgd, .int vxgs])), (axgd, .inl (cy, 8, .inl fxgd))]) (w1 := [(ao, .inr (2, [.ref aod, .int vos])), (aod, .inl (cy, 8, .inl fod))]) (ws' := [(ax, .inr (0, [.ref axn, .ref axg, .ref axc])), (axg, .inr (2, [.ref axgd, .int vxgs])), (axgd, .inl (cy, 8, .inl fxgd)), (ao, .inr (2, [.ref aod, .int vos])), (aod, .inl (cy, 8, .inl fod))]) hP hD [3, 4] [0, 1, 2] rfl rfl (by decide) (by decide) hk1 hFc hB ht [0, 1, 2, 3, 4] rfl (by decide) rfl
          replace hw := hw.symm
          subst hw
          clear hFc hB hk1 hz1 hvm
          refine lv_goto (tgt := 51) hx hb dX0_guessPeriod_37 (by decide) ?_
          obtain ⟨hi, h⟩ := gin_some h
          refine va_iast hx hb hK hP hD hS 2 0 rfl rfl hi dX0_guessPeriod_51 (fun H locs hP hD hS => ?_)
          replace hP : va_P (dC, dI) vwCl [(ax, .inr (0, [.ref axn, .ref axg, .ref axc])), (axg, .inr (2, [.ref axgd, .int vxgs])), (axgd, .inl (cy, 8, .inl (upd fxgd l3.toNatClampNeg r2))), (ao, .inr (2, [.ref aod, .int vos])), (aod, .inl (cy, 8, .inl fod))] H := hP
          replace hD : va_D A [(ax, .inr (0, [.ref axn, .ref axg, .ref axc])), (axg, .inr (2, [.ref axgd, .int vxgs])), (axgd, .inl (cy, 8, .inl (upd fxgd l3.toNatClampNeg r2))), (ao, .inr (2, [.ref aod, .int vos])), (aod, .inl (cy, 8, .inl fod))] := hD
          refine lv_iinc (v := l3 + (1 : Int32)) (lv' := [(3, .int (l3 + (1 : Int32))), (0, .ref ax), (1, .ref ao), (2, .int l2)]) hx hb dX0_guessPeriod_52 hl (k := 3) rfl rfl (by decide) rfl (fun ls hl => ?_)
          refine lv_goto (tgt := 10) hx hb dX0_guessPeriod_55 (by decide) ?_
          exact ih l2 (l3 + (1 : Int32)) vxgs (upd fxgd l3.toNatClampNeg r2) rs H locs ls h (lv_sub hl [1, 2, 3, 0] rfl) hP hD hS K
  obtain ⟨q6, hq6, h⟩ := bd_some h
  refine L10_4 FU p1 (0 : Int32) r1.1 r1.2 q6 H locs ls hq6 (lv_sub hl [1, 2, 3, 0] rfl) hP hD hS (fun H locs ls hl hP hD hS => ?_)
  have h0 := Option.some.inj h
  subst h0
  exact W.vret hx hb hr (fun t ht hW => ⟨⟨(), rfl, trivial, QW_mk hP hK hD ht hW⟩, hS.F ht⟩) hS.2.2 dX0_guessPeriod_58

noncomputable def fX0_makeRound_L5 (n : Nat) (l2 : Int32) (l3 : Int32) (vxns : Int32) (fxnd : Nat → Int32) (vxgs : Int32) (fxgd : Nat → Int32) (vos : Int32) (fod : Nat → Int32) : Option (Int32 × Int32 × Int32 × (Nat → Int32) × Int32 × (Nat → Int32)) := match n with
  | 0 => none
  | n + 1 => if vos ≤ l3 then (some (l2, l3, vxns, fxnd, vxgs, fxgd)) else (gnz l3 (if (vos - vos / l3 * l3) = 0 then (bd (fX0_guessPeriod vxgs fxgd vos fod l3) fun r1 => bd (fX2_differing vos fod r1.2) fun r2 => if r2 < l2 then (bd (fX2_become vxns fxnd r1.1 r1.2) fun r3 => fX0_makeRound_L5 n r2 (l3 + (1 : Int32)) r3.1 r3.2 r1.1 r1.2 vos fod) else (if r2 = l2 then (bd (fX2_isAheadOf r1.1 r1.2 fxnd) fun r4 => if r4 = 0 then (fX0_makeRound_L5 n l2 (l3 + (1 : Int32)) vxns fxnd r1.1 r1.2 vos fod) else (bd (fX2_become vxns fxnd r1.1 r1.2) fun r5 => fX0_makeRound_L5 n r2 (l3 + (1 : Int32)) r5.1 r5.2 r1.1 r1.2 vos fod)) else (fX0_makeRound_L5 n l2 (l3 + (1 : Int32)) vxns fxnd r1.1 r1.2 vos fod))) else (fX0_makeRound_L5 n l2 (l3 + (1 : Int32)) vxns fxnd vxgs fxgd vos fod)))
theorem fX0_makeRound_L5_0 (l2 : Int32) (l3 : Int32) (vxns : Int32) (fxnd : Nat → Int32) (vxgs : Int32) (fxgd : Nat → Int32) (vos : Int32) (fod : Nat → Int32) : fX0_makeRound_L5 0 l2 l3 vxns fxnd vxgs fxgd vos fod = none := rfl
theorem fX0_makeRound_L5_s (n : Nat) (l2 : Int32) (l3 : Int32) (vxns : Int32) (fxnd : Nat → Int32) (vxgs : Int32) (fxgd : Nat → Int32) (vos : Int32) (fod : Nat → Int32) : fX0_makeRound_L5 (n + 1) l2 l3 vxns fxnd vxgs fxgd vos fod = if vos ≤ l3 then (some (l2, l3, vxns, fxnd, vxgs, fxgd)) else (gnz l3 (if (vos - vos / l3 * l3) = 0 then (bd (fX0_guessPeriod vxgs fxgd vos fod l3) fun r1 => bd (fX2_differing vos fod r1.2) fun r2 => if r2 < l2 then (bd (fX2_become vxns fxnd r1.1 r1.2) fun r3 => fX0_makeRound_L5 n r2 (l3 + (1 : Int32)) r3.1 r3.2 r1.1 r1.2 vos fod) else (if r2 = l2 then (bd (fX2_isAheadOf r1.1 r1.2 fxnd) fun r4 => if r4 = 0 then (fX0_makeRound_L5 n l2 (l3 + (1 : Int32)) vxns fxnd r1.1 r1.2 vos fod) else (bd (fX2_become vxns fxnd r1.1 r1.2) fun r5 => fX0_makeRound_L5 n r2 (l3 + (1 : Int32)) r5.1 r5.2 r1.1 r1.2 vos fod)) else (fX0_makeRound_L5 n l2 (l3 + (1 : Int32)) vxns fxnd r1.1 r1.2 vos fod))) else (fX0_makeRound_L5 n l2 (l3 + (1 : Int32)) vxns fxnd vxgs fxgd vos fod))) := rfl
noncomputable def fX0_makeRound (vxns : Int32) (fxnd : Nat → Int32) (vxgs : Int32) (fxgd : Nat → Int32) (vos : Int32) (fod : Nat → Int32)  : Option (Int32 × (Nat → Int32) × Int32 × (Nat → Int32)) := bd (fX0_makeRound_L5 FU (9 : Int32) (1 : Int32) vxns fxnd vxgs fxgd vos fod) fun q12 => some (q12.2.2.1, q12.2.2.2.1, q12.2.2.2.2.1, q12.2.2.2.2.2)
set_option maxHeartbeats 4000000 in
set_option maxRecDepth 100000 in
theorem c_X0_makeRound (l : Launch) (dC : Nat → ClassId) (dI : Nat → Nat → Nat) (cy : ClassId) (ax axn axg axc axnd axgd ao aod : Nat) (sz : Nat) (vxns : Int32) (fxnd : Nat → Int32) (vxgs : Int32) (fxgd : Nat → Int32) (vos : Int32) (fod : Nat → Int32)  (res : Int32 × (Nat → Int32) × Int32 × (Nat → Int32)) (h : fX0_makeRound vxns fxnd vxgs fxgd vos fod = some res) : Met l yX0_makeRound wsX0_makeRound ({ frames := 2, cells := 0, slots := 0, locals := 51 }) (va_Pc [.ref ax, .ref ao] (PW (dC, dI) cy sz [(ax, .inr (0, [.ref axn, .ref axg, .ref axc])), (axn, .inr (2, [.ref axnd, .int vxns])), (axnd, .inl (cy, 8, .inl fxnd)), (axg, .inr (2, [.ref axgd, .int vxgs])), (axgd, .inl (cy, 8, .inl fxgd)), (ao, .inr (2, [.ref aod, .int vos])), (aod, .inl (cy, 8, .inl fod))])) (va_Qv (fun (_ : Unit) => True) (QW (dC, dI) cy (va_A [(ax, .inr (0, [.ref axn, .ref axg, .ref axc])), (axn, .inr (2, [.ref axnd, .int vxns])), (axnd, .inl (cy, 8, .inl fxnd)), (axg, .inr (2, [.ref axgd, .int vxgs])), (axgd, .inl (cy, 8, .inl fxgd)), (ao, .inr (2, [.ref aod, .int vos])), (aod, .inl (cy, 8, .inl fod))] sz) [(ax, .inr (0, [.ref axn, .ref axg, .ref axc])), (axn, .inr (2, [.ref axnd, .int res.1])), (axnd, .inl (cy, 8, .inl res.2.1)), (axg, .inr (2, [.ref axgd, .int res.2.2.1])), (axgd, .inl (cy, 8, .inl res.2.2.2)), (ao, .inr (2, [.ref aod, .int vos])), (aod, .inl (cy, 8, .inl fod))]) (va_A [(ax, .inr (0, [.ref axn, .ref axg, .ref axc])), (axn, .inr (2, [.ref axnd, .int vxns])), (axnd, .inl (cy, 8, .inl fxnd)), (axg, .inr (2, [.ref axgd, .int vxgs])), (axgd, .inl (cy, 8, .inl fxgd)), (ao, .inr (2, [.ref aod, .int vos])), (aod, .inl (cy, 8, .inl fod))] sz)) 0 0 (va_A [(ax, .inr (0, [.ref axn, .ref axg, .ref axc])), (axn, .inr (2, [.ref axnd, .int vxns])), (axnd, .inl (cy, 8, .inl fxnd)), (axg, .inr (2, [.ref axgd, .int vxgs])), (axgd, .inl (cy, 8, .inl fxgd)), (ao, .inr (2, [.ref aod, .int vos])), (aod, .inl (cy, 8, .inl fod))] sz) := by
  refine Met.ofW (cc := cX0_makeRound) (maxL := 5) (ret := none) (by decide) rfl ?_
  intro p e s m args below meth c s₁ B hml hv
  obtain ⟨rfl, hsz, hP, hK, hD0, hN⟩ := hv
  have hx := B.exec
  have hb := B.bytes
  have hr := B.returns
  have hts := atoms_spec (ws := wsX0_makeRound) B.pre
  have hown : s.vm.findClass RX0 = some m.cls := findClass_of_methodNamed B.named
  have hlocks := B.notSynchronized
  subst hsz
  have hD := hD0.self (sz := s.heap.size)
  clear hD0
  generalize hAe : va_A [(ax, .inr (0, [.ref axn, .ref axg, .ref axc])), (axn, .inr (2, [.ref axnd, .int vxns])), (axnd, .inl (cy, 8, .inl fxnd)), (axg, .inr (2, [.ref axgd, .int vxgs])), (axgd, .inl (cy, 8, .inl fxgd)), (ao, .inr (2, [.ref aod, .int vos])), (aod, .inl (cy, 8, .inl fod))] s.heap.size = A at hD ⊢
  have hA : ∀ q : Nat, s.heap.size ≤ q → A q := fun q h => by rw [← hAe]; exact Or.inr h
  have hS : va_S A s.heap s.heap [] := va_S.rf
  have hl := lv_entry ([.ref ax, .ref ao]) (n := 5) (Nat.le_of_ble_eq_true rfl)
  rw [lg_entry_eq]
  generalize (lg_sl ([.ref ax, .ref ao]) ++ List.replicate (5 - (lg_sl ([.ref ax, .ref ao])).length) Slot.unset).toArray = ls at hl ⊢
  replace hl : lv_has ls 5 [(0, .ref ax), (1, .ref ao)] := hl
  replace hP : va_P (dC, dI) vwCl [(ax, .inr (0, [.ref axn, .ref axg, .ref axc])), (axn, .inr (2, [.ref axnd, .int vxns])), (axnd, .inl (cy, 8, .inl fxnd)), (axg, .inr (2, [.ref axgd, .int vxgs])), (axgd, .inl (cy, 8, .inl fxgd)), (ao, .inr (2, [.ref aod, .int vos])), (aod, .inl (cy, 8, .inl fod))] s.heap := hP
  obtain ⟨locs, hlocs⟩ : ∃ lc : List Loc, lc = [] := ⟨_, rfl⟩
  rw [← hlocs] at hS ⊢
  obtain ⟨H, hH⟩ : ∃ H : Heap, H = s.heap := ⟨_, rfl⟩
  have hP2 := hP; rw [← hH] at hP2
  have hS2 : va_S A s.heap H locs := by rw [hH]; exact hS
  suffices hgo : W p l e (headSpec wsX0_makeRound ({ frames := 2, cells := 0, slots := 0, locals := 51 })).room s m (([.ref ax, .ref ao] : List Value).toArray) below meth c H locs 0 0 (MQ below (va_Qv (fun (_ : Unit) => True) (QW (dC, dI) cy A [(ax, .inr (0, [.ref axn, .ref axg, .ref axc])), (axn, .inr (2, [.ref axnd, .int res.1])), (axnd, .inl (cy, 8, .inl res.2.1)), (axg, .inr (2, [.ref axgd, .int res.2.2.1])), (axgd, .inl (cy, 8, .inl res.2.2.2)), (ao, .inr (2, [.ref aod, .int vos])), (aod, .inl (cy, 8, .inl fod))]) A) (([.ref ax, .ref ao] : List Value).toArray) s 0 0 A) (F0 m 0 ls []) by rw [hH] at hgo; exact hgo
  replace hP := hP2
  replace hS := hS2
  clear hP2 hS2
  have hin_X0 : ∀ w ∈ wsX00, w ∈ wsX0_makeRound := by decide +kernel
  have hin_X2 : ∀ w ∈ wsX20, w ∈ wsX0_makeRound := by decide +kernel
  have hf_12 := hts (.fieldLink RX0 12 "FewLooks$Mender" "near" "LFewLooks$Row;") (by decide +kernel)
  have hf_18 := hts (.fieldLink RX0 18 "FewLooks$Mender" "guess" "LFewLooks$Row;") (by decide +kernel)
  unfold fX0_makeRound at h
  refine lv_bipush (v := (9 : Int32)) hx hb dX0_makeRound_0 (by decide) ?_
  refine lv_istore_n (lv' := [(2, .int (9 : Int32)), (0, .ref ax), (1, .ref ao)]) hx hb dX0_makeRound_2 rfl hl (by decide) rfl (fun ls hl => ?_)
  refine lv_iconst (v := (1 : Int32)) hx hb dX0_makeRound_3 (by decide) ?_
  refine lv_istore_n (lv' := [(3, .int (1 : Int32)), (2, .int (9 : Int32)), (0, .ref ax), (1, .ref ao)]) hx hb dX0_makeRound_4 rfl hl (by decide) rfl (fun ls hl => ?_)
  have L5_10 : ∀ (n : Nat) (l2 : Int32) (l3 : Int32) (vxns : Int32) (fxnd : Nat → Int32) (vxgs : Int32) (fxgd : Nat → Int32) (rs : (Int32 × Int32 × Int32 × (Nat → Int32) × Int32 × (Nat → Int32))) (H : Heap) (locs : List Loc) (ls : Array Slot), fX0_makeRound_L5 n l2 l3 vxns fxnd vxgs fxgd vos fod = some rs → lv_has ls 5 [(0, .ref ax), (1, .ref ao), (2, .int l2), (3, .int l3)] → va_P (dC, dI) vwCl [(ax, .inr (0, [.ref axn, .ref axg, .ref axc])), (axn, .inr (2, [.ref axnd, .int vxns])), (axnd, .inl (cy, 8, .inl fxnd)), (axg, .inr (2, [.ref axgd, .int vxgs])), (axgd, .inl (cy, 8, .inl fxgd)), (ao, .inr (2, [.ref aod, .int vos])), (aod, .inl (cy, 8, .inl fod))] H → va_D A [(ax, .inr (0, [.ref axn, .ref axg, .ref axc])), (axn, .inr (2, [.ref axnd, .int vxns])), (axnd, .inl (cy, 8, .inl fxnd)), (axg, .inr (2, [.ref axgd, .int vxgs])), (axgd, .inl (cy, 8, .inl fxgd)), (ao, .inr (2, [.ref aod, .int vos])), (aod, .inl (cy, 8, .inl fod))] → va_S A s.heap H locs → (∀ (H : Heap) (locs : List Loc) (ls : Array Slot), lv_has ls 5 [(0, .ref ax), (1, .ref ao), (2, .int rs.1), (3, .int rs.2.1)] → va_P (dC, dI) vwCl [(ax, .inr (0, [.ref axn, .ref axg, .ref axc])), (axn, .inr (2, [.ref axnd, .int rs.2.2.1])), (axnd, .inl (cy, 8, .inl rs.2.2.2.1)), (axg, .inr (2, [.ref axgd, .int rs.2.2.2.2.1])), (axgd, .inl (cy, 8, .inl rs.2.2.2.2.2)), (ao, .inr (2, [.ref aod, .int vos])), (aod, .inl (cy, 8, .inl fod))] H → va_D A [(ax, .inr (0, [.ref axn, .ref axg, .ref axc])), (axn, .inr (2, [.ref axnd, .int rs.2.2.1])), (axnd, .inl (cy, 8, .inl rs.2.2.2.1)), (axg, .inr (2, [.ref axgd, .int rs.2.2.2.2.1])), (axgd, .inl (cy, 8, .inl rs.2.2.2.2.2)), (ao, .inr (2, [.ref aod, .int vos])), (aod, .inl (cy, 8, .inl fod))] → va_S A s.heap H locs → W p l e (headSpec wsX0_makeRound ({ frames := 2, cells := 0, slots := 0, locals := 51 })).room s m (([.ref ax, .ref ao] : List Value).toArray) below meth c H locs 0 0 (MQ below (va_Qv (fun (_ : Unit) => True) (QW (dC, dI) cy A [(ax, .inr (0, [.ref axn, .ref axg, .ref axc])), (axn, .inr (2, [.ref axnd, .int res.1])), (axnd, .inl (cy, 8, .inl res.2.1)), (axg, .inr (2, [.ref axgd, .int res.2.2.1])), (axgd, .inl (cy, 8, .inl res.2.2.2)), (ao, .inr (2, [.ref aod, .int vos])), (aod, .inl (cy, 8, .inl fod))]) A) (([.ref ax, .ref ao] : List Value).toArray) s 0 0 A) (F0 m 84 ls [])) → W p l e (headSpec wsX0_makeRound ({ frames := 2, cells := 0, slots := 0, locals := 51 })).room s m (([.ref ax, .ref ao] : List Value).toArray) below meth c H locs 0 0 (MQ below (va_Qv (fun (_ : Unit) => True) (QW (dC, dI) cy A [(ax, .inr (0, [.ref axn, .ref axg, .ref axc])), (axn, .inr (2, [.ref axnd, .int res.1])), (axnd, .inl (cy, 8, .inl res.2.1)), (axg, .inr (2, [.ref axgd, .int res.2.2.1])), (axgd, .inl (cy, 8, .inl res.2.2.2)), (ao, .inr (2, [.ref aod, .int vos])), (aod, .inl (cy, 8, .inl fod))]) A) (([.ref ax, .ref ao] : List Value).toArray) s 0 0 A) (F0 m 5 ls []) := by
    intro n
    induction n with
    | zero =>
      intro l2 l3 vxns fxnd vxgs fxgd rs H locs ls h
      rw [fX0_makeRound_L5_0] at h
      cases h
    | succ n ih =>
      intro l2 l3 vxns fxnd vxgs fxgd rs H locs ls h hl hP hD hS K
      rw [fX0_makeRound_L5_s] at h
      refine lv_iload_n hx hb dX0_makeRound_5 rfl (lv_at hl 3 rfl) ?_
      refine lv_aload_n hx hb dX0_makeRound_6 rfl (lv_at hl 1 rfl) ?_
      refine va_getN (D := (dC, dI)) (ci := 2) (v := .int vos) (C := RX2) (T := TX2) (N := 2) hx hb hts hin_X2 hown hK hP 5 rfl rfl 1 (by decide) (va_Nw.use rfl (hN.2.2.2.2.1)) (fun _ h9 => h9) rfl dX0_makeRound_7 ?_
      refine lv_icmp_ge (tgt := 84) hx hb dX0_makeRound_10 (by decide) (fun c10 => ?_) (fun c10 => ?_)
      · rw [if_pos c10] at h
        have h0 := Option.some.inj h
        subst h0
        exact K H locs ls (lv_sub hl [0, 1, 2, 3] rfl) hP hD hS
      · rw [if_neg c10] at h
        refine lv_aload_n hx hb dX0_makeRound_13 rfl (lv_at hl 1 rfl) ?_
        refine va_getN (D := (dC, dI)) (ci := 2) (v := .int vos) (C := RX2) (T := TX2) (N := 2) hx hb hts hin_X2 hown hK hP 5 rfl rfl 1 (by decide) (va_Nw.use rfl (hN.2.2.2.2.1)) (fun _ h9 => h9) rfl dX0_makeRound_14 ?_
        refine lv_iload_n hx hb dX0_makeRound_17 rfl (lv_at hl 3 rfl) ?_
        obtain ⟨hz, h⟩ := gnz_some h
        refine lv_irem hx hb dX0_makeRound_18 hz ?_
        refine lv_if_ne (tgt := 78) hx hb dX0_makeRound_19 (by decide) (fun c9 => ?_) (fun c9 => ?_)
        · rw [if_neg c9] at h
          refine lv_iinc (v := l3 + (1 : Int32)) (lv' := [(3, .int (l3 + (1 : Int32))), (0, .ref ax), (1, .ref ao), (2, .int l2)]) hx hb dX0_makeRound_78 hl (k := 3) rfl rfl (by decide) rfl (fun ls hl => ?_)
          refine lv_goto (tgt := 5) hx hb dX0_makeRound_81 (by decide) ?_
          exact ih l2 (l3 + (1 : Int32)) vxns fxnd vxgs fxgd rs H locs ls h (lv_sub hl [1, 2, 3, 0] rfl) hP hD hS K
        · rw [if_pos c9] at h
          refine lv_aload_n hx hb dX0_makeRound_22 rfl (lv_at hl 0 rfl) ?_
          refine lv_aload_n hx hb dX0_makeRound_23 rfl (lv_at hl 1 rfl) ?_
          refine lv_iload_n hx hb dX0_makeRound_24 rfl (lv_at hl 3 rfl) ?_
          obtain ⟨r1, hr1, h⟩ := bd_some h
          have hFc := va_free (wc := [(ax, .inr (0, [.ref axn, .ref axg, .ref axc])), (axg, .inr (2, [.ref axgd, .int vxgs])), (axgd, .inl (cy, 8, .inl fxgd)), (ao, .inr (2, [.ref aod, .int vos])), (aod, .inl (cy, 8, .inl fod))]) hD hS hA [0, 3, 4, 5, 6] rfl
          refine va_callv (va_runV (As := [.ref ao, .int l3]) (rest := []) ⟨hx, hb, hml, hown, hts⟩ (c_X0_guessPeriod l dC dI cy ax axn axg axc axgd ao aod H.size vxgs fxgd vos fod l3 r1 hr1) (cwV 2 hts gX0_makeRound_X0_guessPeriod rfl rfl rfl (by decide +kernel) ⟨Nat.le_of_ble_eq_true rfl, Nat.le_of_ble_eq_true rfl⟩) ⟨PW_fb, va_recv hK hP (ci := 0) (q0 := 0) rfl rfl, PW_pre (hP.sub (ws' := [(ax, .inr (0, [.ref axn, .ref axg, .ref axc])), (axg, .inr (2, [.ref axgd, .int vxgs])), (axgd, .inl (cy, 8, .inl fxgd)), (ao, .inr (2, [.ref aod, .int vos])), (aod, .inl (cy, 8, .inl fod))]) [0, 3, 4, 5, 6] rfl) hK (hD.sub [0, 3, 4, 5, 6] (by decide) rfl) hN⟩ rfl rfl hl.1 rfl (lv_room (Nat.le_of_ble_eq_true rfl)) dX0_makeRound_25 ⟨Nat.zero_le _, Nat.zero_le _⟩) hS (fun q _ h => hFc q h) hFc (fun u t H locs ht hvm hw hB hz1 hk1 hS => ?_)
          obtain ⟨hP, hD⟩ := jn (wr := [(axn, .inr (2, [.ref axnd, .int vxns])), (axnd, .inl (cy, 8, .inl fxnd))]) (w1 := [(ax, .inr (0, [.ref axn, .ref axg, .ref axc])), (axg, .inr (2, [.ref axgd, .int r1.1])), (axgd, .inl (cy, 8, .inl r1.2)), (ao, .inr (2, [.ref aod, .int vos])), (aod, .inl (cy, 8, .inl fod))]) (ws' := [(ax, .inr (0, [.ref axn, .ref axg, .ref axc])), (axn, .inr (2, [.ref axnd, .int vxns])), (axnd, .inl (cy, 8, .inl fxnd)), (axg, .inr (2, [.ref axgd, .int r1.1])), (axgd, .inl (cy, 8, .inl r1.2)), (ao, .inr (2, [.ref aod, .int vos])), (aod, .inl (cy, 8, .inl fod))]) hP hD [0, 3, 4, 5, 6] [1, 2] rfl rfl (by decide) (by decide) hk1 hFc hB ht [2, 0, 1, 3, 4, 5, 6] rfl (by decide) rfl
          clear hFc hB hk1 hz1 hvm
          refine lv_aload_n hx hb dX0_makeRound_28 rfl (lv_at hl 1 rfl) ?_
          refine lv_aload_n hx hb dX0_makeRound_29 rfl (lv_at hl 0 rfl) ?_
          refine va_get (D := (dC, dI)) (ci := 0) (v := .ref axg) (C := RX0) (T := TX0) (N := 3) hx hb hts hin_X0 hown hK hP 0 rfl rfl 1 (by decide) (hf_18) (fun _ h9 => h9) rfl dX0_makeRound_30 ?_
          obtain ⟨r2, hr2, h⟩ := bd_some h
          have hFc := va_free (wc := [(ao, .inr (2, [.ref aod, .int vos])), (aod, .inl (cy, 8, .inl fod)), (axg, .inr (2, [.ref axgd, .int r1.1])), (axgd, .inl (cy, 8, .inl r1.2))]) hD hS hA [5, 6, 3, 4] rfl
          refine va_calli (va_runV (As := [.ref axg]) (rest := []) ⟨hx, hb, hml, hown, hts⟩ (c_X2_differing l dC dI cy ao aod axg axgd H.size vos fod r1.1 r1.2  r2 hr2) (cwV 1 hts gX0_makeRound_X2_differing rfl rfl rfl (by decide +kernel) ⟨Nat.le_of_ble_eq_true rfl, Nat.le_of_ble_eq_true rfl⟩) ⟨PW_fb, va_recv hK hP (ci := 2) (q0 := 5) rfl rfl, PW_pre (hP.sub (ws' := [(ao, .inr (2, [.ref aod, .int vos])), (aod, .inl (cy, 8, .inl fod)), (axg, .inr (2, [.ref axgd, .int r1.1])), (axgd, .inl (cy, 8, .inl r1.2))]) [5, 6, 3, 4] rfl) hK (hD.sub [5, 6, 3, 4] (by decide) rfl) hN⟩ rfl rfl hl.1 rfl (lv_room (Nat.le_of_ble_eq_true rfl)) dX0_makeRound_33 ⟨Nat.zero_le _, Nat.zero_le _⟩) hS (fun q _ h => hFc q h) hFc (fun rz u t H locs ht hvm hw hB hz1 hk1 hS => ?_)
          obtain ⟨hP, hD⟩ := jn (wr := [(ax, .inr (0, [.ref axn, .ref axg, .ref axc])), (axn, .inr (2, [.ref axnd, .int vxns])), (axnd, .inl (cy, 8, .inl fxnd))]) (w1 := [(ao, .inr (2, [.ref aod, .int vos])), (aod, .inl (cy, 8, .inl fod)), (axg, .inr (2, [.ref axgd, .int r1.1])), (axgd, .inl (cy, 8, .inl r1.2))]) (ws' := [(ax, .inr (0, [.ref axn, .ref axg, .ref axc])), (axn, .inr (2, [.ref axnd, .int vxns])), (axnd, .inl (cy, 8, .inl fxnd)), (axg, .inr (2, [.ref axgd, .int r1.1])), (axgd, .inl (cy, 8, .inl r1.2)), (ao, .inr (2, [.ref aod, .int vos])), (aod, .inl (cy, 8, .inl fod))]) hP hD [5, 6, 3, 4] [0, 1, 2] rfl rfl (by decide) (by decide) hk1 hFc hB ht [0, 1, 2, 5, 6, 3, 4] rfl (by decide) rfl
          replace hw := hw.symm
          subst hw
          clear hFc hB hk1 hz1 hvm
          refine lv_istore (lv' := [(4, .int r2), (0, .ref ax), (1, .ref ao), (2, .int l2), (3, .int l3)]) hx hb dX0_makeRound_36 hl (by decide) rfl (fun ls hl => ?_)
          refine lv_iload hx hb dX0_makeRound_38 (lv_at hl 0 rfl) ?_
          refine lv_iload_n hx hb dX0_makeRound_40 rfl (lv_at hl 3 rfl) ?_
          refine lv_icmp_lt (tgt := 64) hx hb dX0_makeRound_41 (by decide) (fun c8 => ?_) (fun c8 => ?_)
          · rw [if_pos c8] at h
            refine lv_iload hx hb dX0_makeRound_64 (lv_at hl 0 rfl) ?_
            refine lv_istore_n (lv' := [(2, .int r2), (4, .int r2), (0, .ref ax), (1, .ref ao), (3, .int l3)]) hx hb dX0_makeRound_66 rfl hl (by decide) rfl (fun ls hl => ?_)
            refine lv_aload_n hx hb dX0_makeRound_67 rfl (lv_at hl 2 rfl) ?_
            refine va_get (D := (dC, dI)) (ci := 0) (v := .ref axn) (C := RX0) (T := TX0) (N := 3) hx hb hts hin_X0 hown hK hP 0 rfl rfl 0 (by decide) (hf_12) (fun _ h9 => h9) rfl dX0_makeRound_68 ?_
            refine lv_aload_n hx hb dX0_makeRound_71 rfl (lv_at hl 2 rfl) ?_
            refine va_get (D := (dC, dI)) (ci := 0) (v := .ref axg) (C := RX0) (T := TX0) (N := 3) hx hb hts hin_X0 hown hK hP 0 rfl rfl 1 (by decide) (hf_18) (fun _ h9 => h9) rfl dX0_makeRound_72 ?_
            obtain ⟨r3, hr3, h⟩ := bd_some h
            have hFc := va_free (wc := [(axn, .inr (2, [.ref axnd, .int vxns])), (axnd, .inl (cy, 8, .inl fxnd)), (axg, .inr (2, [.ref axgd, .int r1.1])), (axgd, .inl (cy, 8, .inl r1.2))]) hD hS hA [1, 2, 3, 4] rfl
            refine va_callv (va_runV (As := [.ref axg]) (rest := []) ⟨hx, hb, hml, hown, hts⟩ (c_X2_become l dC dI cy axn axnd axg axgd H.size vxns fxnd r1.1 r1.2  r3 hr3) (cwV 1 hts gX0_makeRound_X2_become rfl rfl rfl (by decide +kernel) ⟨Nat.le_of_ble_eq_true rfl, Nat.le_of_ble_eq_true rfl⟩) ⟨PW_fb, va_recv hK hP (ci := 2) (q0 := 1) rfl rfl, PW_pre (hP.sub (ws' := [(axn, .inr (2, [.ref axnd, .int vxns])), (axnd, .inl (cy, 8, .inl fxnd)), (axg, .inr (2, [.ref axgd, .int r1.1])), (axgd, .inl (cy, 8, .inl r1.2))]) [1, 2, 3, 4] rfl) hK (hD.sub [1, 2, 3, 4] (by decide) rfl) hN⟩ rfl rfl hl.1 rfl (lv_room (Nat.le_of_ble_eq_true rfl)) dX0_makeRound_75 ⟨Nat.zero_le _, Nat.zero_le _⟩) hS (fun q _ h => hFc q h) hFc (fun u t H locs ht hvm hw hB hz1 hk1 hS => ?_)
            obtain ⟨hP, hD⟩ := jn (wr := [(ax, .inr (0, [.ref axn, .ref axg, .ref axc])), (ao, .inr (2, [.ref aod, .int vos])), (aod, .inl (cy, 8, .inl fod))]) (w1 := [(axn, .inr (2, [.ref axnd, .int r3.1])), (axnd, .inl (cy, 8, .inl r3.2)), (axg, .inr (2, [.ref axgd, .int r1.1])), (axgd, .inl (cy, 8, .inl r1.2))]) (ws' := [(ax, .inr (0, [.ref axn, .ref axg, .ref axc])), (axn, .inr (2, [.ref axnd, .int r3.1])), (axnd, .inl (cy, 8, .inl r3.2)), (axg, .inr (2, [.ref axgd, .int r1.1])), (axgd, .inl (cy, 8, .inl r1.2)), (ao, .inr (2, [.ref aod, .int vos])), (aod, .inl (cy, 8, .inl fod))]) hP hD [1, 2, 3, 4] [0, 5, 6] rfl rfl (by decide) (by decide) hk1 hFc hB ht [0, 3, 4, 5, 6, 1, 2] rfl (by decide) rfl
            clear hFc hB hk1 hz1 hvm
            refine lv_iinc (v := l3 + (1 : Int32)) (lv' := [(3, .int (l3 + (1 : Int32))), (2, .int r2), (4, .int r2), (0, .ref ax), (1, .ref ao)]) hx hb dX0_makeRound_78 hl (k := 4) rfl rfl (by decide) rfl (fun ls hl => ?_)
            refine lv_goto (tgt := 5) hx hb dX0_makeRound_81 (by decide) ?_
            exact ih r2 (l3 + (1 : Int32)) r3.1 r3.2 r1.1 r1.2 rs H locs ls h (lv_sub hl [3, 4, 1, 0] rfl) hP hD hS K
          · rw [if_neg c8] at h
            refine lv_iload hx hb dX0_makeRound_44 (lv_at hl 0 rfl) ?_
            refine lv_iload_n hx hb dX0_makeRound_46 rfl (lv_at hl 3 rfl) ?_
            refine lv_icmp_ne (tgt := 78) hx hb dX0_makeRound_47 (by decide) (fun c7 => ?_) (fun c7 => ?_)
            · rw [if_neg c7] at h
              refine lv_iinc (v := l3 + (1 : Int32)) (lv' := [(3, .int (l3 + (1 : Int32))), (4, .int r2), (0, .ref ax), (1, .ref ao), (2, .int l2)]) hx hb dX0_makeRound_78 hl (k := 4) rfl rfl (by decide) rfl (fun ls hl => ?_)
              refine lv_goto (tgt := 5) hx hb dX0_makeRound_81 (by decide) ?_
              exact ih l2 (l3 + (1 : Int32)) vxns fxnd r1.1 r1.2 rs H locs ls h (lv_sub hl [2, 3, 4, 0] rfl) hP hD hS K
            · rw [if_pos c7] at h
              refine lv_aload_n hx hb dX0_makeRound_50 rfl (lv_at hl 1 rfl) ?_
              refine va_get (D := (dC, dI)) (ci := 0) (v := .ref axg) (C := RX0) (T := TX0) (N := 3) hx hb hts hin_X0 hown hK hP 0 rfl rfl 1 (by decide) (hf_18) (fun _ h9 => h9) rfl dX0_makeRound_51 ?_
              refine lv_aload_n hx hb dX0_makeRound_54 rfl (lv_at hl 1 rfl) ?_
              refine va_get (D := (dC, dI)) (ci := 0) (v := .ref axn) (C := RX0) (T := TX0) (N := 3) hx hb hts hin_X0 hown hK hP 0 rfl rfl 0 (by decide) (hf_12) (fun _ h9 => h9) rfl dX0_makeRound_55 ?_
              obtain ⟨r4, hr4, h⟩ := bd_some h
              have hFc := va_free (wc := [(axg, .inr (2, [.ref axgd, .int r1.1])), (axgd, .inl (cy, 8, .inl r1.2)), (axn, .inr (2, [.ref axnd, .int vxns])), (axnd, .inl (cy, 8, .inl fxnd))]) hD hS hA [3, 4, 1, 2] rfl
              refine va_calli (va_runV (As := [.ref axn]) (rest := []) ⟨hx, hb, hml, hown, hts⟩ (c_X2_isAheadOf l dC dI cy axg axgd axn axnd H.size r1.1 r1.2 vxns fxnd  r4 hr4) (cwV 1 hts gX0_makeRound_X2_isAheadOf rfl rfl rfl (by decide +kernel) ⟨Nat.le_of_ble_eq_true rfl, Nat.le_of_ble_eq_true rfl⟩) ⟨PW_fb, va_recv hK hP (ci := 2) (q0 := 3) rfl rfl, PW_pre (hP.sub (ws' := [(axg, .inr (2, [.ref axgd, .int r1.1])), (axgd, .inl (cy, 8, .inl r1.2)), (axn, .inr (2, [.ref axnd, .int vxns])), (axnd, .inl (cy, 8, .inl fxnd))]) [3, 4, 1, 2] rfl) hK (hD.sub [3, 4, 1, 2] (by decide) rfl) hN⟩ rfl rfl hl.1 rfl (lv_room (Nat.le_of_ble_eq_true rfl)) dX0_makeRound_58 ⟨Nat.zero_le _, Nat.zero_le _⟩) hS (fun q _ h => hFc q h) hFc (fun rz u t H locs ht hvm hw hB hz1 hk1 hS => ?_)
              obtain ⟨hP, hD⟩ := jn (wr := [(ax, .inr (0, [.ref axn, .ref axg, .ref axc])), (ao, .inr (2, [.ref aod, .int vos])), (aod, .inl (cy, 8, .inl fod))]) (w1 := [(axg, .inr (2, [.ref axgd, .int r1.1])), (axgd, .inl (cy, 8, .inl r1.2)), (axn, .inr (2, [.ref axnd, .int vxns])), (axnd, .inl (cy, 8, .inl fxnd))]) (ws' := [(ax, .inr (0, [.ref axn, .ref axg, .ref axc])), (axn, .inr (2, [.ref axnd, .int vxns])), (axnd, .inl (cy, 8, .inl fxnd)), (axg, .inr (2, [.ref axgd, .int r1.1])), (axgd, .inl (cy, 8, .inl r1.2)), (ao, .inr (2, [.ref aod, .int vos])), (aod, .inl (cy, 8, .inl fod))]) hP hD [3, 4, 1, 2] [0, 5, 6] rfl rfl (by decide) (by decide) hk1 hFc hB ht [0, 5, 6, 3, 4, 1, 2] rfl (by decide) rfl
              obtain ⟨hw, br4⟩ := hw
              replace hw := hw.symm
              subst hw
              clear hFc hB hk1 hz1 hvm
              refine lv_if_eq (tgt := 78) hx hb dX0_makeRound_61 (by decide) (fun c6 => ?_) (fun c6 => ?_)
              · rw [if_pos c6] at h
                refine lv_iinc (v := l3 + (1 : Int32)) (lv' := [(3, .int (l3 + (1 : Int32))), (4, .int r2), (0, .ref ax), (1, .ref ao), (2, .int l2)]) hx hb dX0_makeRound_78 hl (k := 4) rfl rfl (by decide) rfl (fun ls hl => ?_)
                refine lv_goto (tgt := 5) hx hb dX0_makeRound_81 (by decide) ?_
                exact ih l2 (l3 + (1 : Int32)) vxns fxnd r1.1 r1.2 rs H locs ls h (lv_sub hl [2, 3, 4, 0] rfl) hP hD hS K
              · rw [if_neg c6] at h
                refine lv_iload hx hb dX0_makeRound_64 (lv_at hl 0 rfl) ?_
                refine lv_istore_n (lv' := [(2, .int r2), (4, .int r2), (0, .ref ax), (1, .ref ao), (3, .int l3)]) hx hb dX0_makeRound_66 rfl hl (by decide) rfl (fun ls hl => ?_)
                refine lv_aload_n hx hb dX0_makeRound_67 rfl (lv_at hl 2 rfl) ?_
                refine va_get (D := (dC, dI)) (ci := 0) (v := .ref axn) (C := RX0) (T := TX0) (N := 3) hx hb hts hin_X0 hown hK hP 0 rfl rfl 0 (by decide) (hf_12) (fun _ h9 => h9) rfl dX0_makeRound_68 ?_
                refine lv_aload_n hx hb dX0_makeRound_71 rfl (lv_at hl 2 rfl) ?_
                refine va_get (D := (dC, dI)) (ci := 0) (v := .ref axg) (C := RX0) (T := TX0) (N := 3) hx hb hts hin_X0 hown hK hP 0 rfl rfl 1 (by decide) (hf_18) (fun _ h9 => h9) rfl dX0_makeRound_72 ?_
                obtain ⟨r5, hr5, h⟩ := bd_some h
                have hFc := va_free (wc := [(axn, .inr (2, [.ref axnd, .int vxns])), (axnd, .inl (cy, 8, .inl fxnd)), (axg, .inr (2, [.ref axgd, .int r1.1])), (axgd, .inl (cy, 8, .inl r1.2))]) hD hS hA [1, 2, 3, 4] rfl
                refine va_callv (va_runV (As := [.ref axg]) (rest := []) ⟨hx, hb, hml, hown, hts⟩ (c_X2_become l dC dI cy axn axnd axg axgd H.size vxns fxnd r1.1 r1.2  r5 hr5) (cwV 1 hts gX0_makeRound_X2_become rfl rfl rfl (by decide +kernel) ⟨Nat.le_of_ble_eq_true rfl, Nat.le_of_ble_eq_true rfl⟩) ⟨PW_fb, va_recv hK hP (ci := 2) (q0 := 1) rfl rfl, PW_pre (hP.sub (ws' := [(axn, .inr (2, [.ref axnd, .int vxns])), (axnd, .inl (cy, 8, .inl fxnd)), (axg, .inr (2, [.ref axgd, .int r1.1])), (axgd, .inl (cy, 8, .inl r1.2))]) [1, 2, 3, 4] rfl) hK (hD.sub [1, 2, 3, 4] (by decide) rfl) hN⟩ rfl rfl hl.1 rfl (lv_room (Nat.le_of_ble_eq_true rfl)) dX0_makeRound_75 ⟨Nat.zero_le _, Nat.zero_le _⟩) hS (fun q _ h => hFc q h) hFc (fun u t H locs ht hvm hw hB hz1 hk1 hS => ?_)
                obtain ⟨hP, hD⟩ := jn (wr := [(ax, .inr (0, [.ref axn, .ref axg, .ref axc])), (ao, .inr (2, [.ref aod, .int vos])), (aod, .inl (cy, 8, .inl fod))]) (w1 := [(axn, .inr (2, [.ref axnd, .int r5.1])), (axnd, .inl (cy, 8, .inl r5.2)), (axg, .inr (2, [.ref axgd, .int r1.1])), (axgd, .inl (cy, 8, .inl r1.2))]) (ws' := [(ax, .inr (0, [.ref axn, .ref axg, .ref axc])), (axn, .inr (2, [.ref axnd, .int r5.1])), (axnd, .inl (cy, 8, .inl r5.2)), (axg, .inr (2, [.ref axgd, .int r1.1])), (axgd, .inl (cy, 8, .inl r1.2)), (ao, .inr (2, [.ref aod, .int vos])), (aod, .inl (cy, 8, .inl fod))]) hP hD [1, 2, 3, 4] [0, 5, 6] rfl rfl (by decide) (by decide) hk1 hFc hB ht [0, 3, 4, 5, 6, 1, 2] rfl (by decide) rfl
                clear hFc hB hk1 hz1 hvm
                refine lv_iinc (v := l3 + (1 : Int32)) (lv' := [(3, .int (l3 + (1 : Int32))), (2, .int r2), (4, .int r2), (0, .ref ax), (1, .ref ao)]) hx hb dX0_makeRound_78 hl (k := 4) rfl rfl (by decide) rfl (fun ls hl => ?_)
                refine lv_goto (tgt := 5) hx hb dX0_makeRound_81 (by decide) ?_
                exact ih r2 (l3 + (1 : Int32)) r5.1 r5.2 r1.1 r1.2 rs H locs ls h (lv_sub hl [3, 4, 1, 0] rfl) hP hD hS K
  obtain ⟨q12, hq12, h⟩ := bd_some h
  refine L5_10 FU (9 : Int32) (1 : Int32) vxns fxnd vxgs fxgd q12 H locs ls hq12 (lv_sub hl [2, 3, 1, 0] rfl) hP hD hS (fun H locs ls hl hP hD hS => ?_)
  have h0 := Option.some.inj h
  subst h0
  exact W.vret hx hb hr (fun t ht hW => ⟨⟨(), rfl, trivial, QW_mk hP hK hD ht hW⟩, hS.F ht⟩) hS.2.2 dX0_makeRound_84

noncomputable def fX0_seek (vxns : Int32) (fxnd : Nat → Int32) (vxgs : Int32) (fxgd : Nat → Int32) (fxc : Nat → Int32) (vos : Int32) (fod : Nat → Int32) (p1 : Int32) : Option (Int32 × Int32 × (Nat → Int32) × Int32 × (Nat → Int32) × (Nat → Int32)) := bd (fX2_become vxns fxnd vos fod) fun r1 => if p1 = (0 : Int32) then (bd (fX0_raise r1.2 fxc vos fod) fun r3 => bd (fX2_differing vos fod r3.1) fun r4 => some (r4, r1.1, r3.1, vxgs, fxgd, r3.2)) else (if p1 = (1 : Int32) then (bd (fX0_mirror r1.2 vos fod) fun r6 => bd (fX2_differing vos fod r6) fun r7 => some (r7, r1.1, r6, vxgs, fxgd, fxc)) else (if p1 = (2 : Int32) then (bd (fX0_makeEven r1.1 r1.2) fun r9 => bd (fX2_differing vos fod r9) fun r10 => some (r10, r1.1, r9, vxgs, fxgd, fxc)) else (bd (fX0_makeRound r1.1 r1.2 vxgs fxgd vos fod) fun r11 => bd (fX2_differing vos fod r11.2.1) fun r12 => some (r12, r11.1, r11.2.1, r11.2.2.1, r11.2.2.2, fxc))))
set_option maxHeartbeats 4000000 in
set_option maxRecDepth 100000 in
theorem c_X0_seek (l : Launch) (dC : Nat → ClassId) (dI : Nat → Nat → Nat) (cy : ClassId) (ax axn axg axc axnd axgd ao aod : Nat) (sz : Nat) (vxns : Int32) (fxnd : Nat → Int32) (vxgs : Int32) (fxgd : Nat → Int32) (fxc : Nat → Int32) (vos : Int32) (fod : Nat → Int32) (p1 : Int32) (res : Int32 × Int32 × (Nat → Int32) × Int32 × (Nat → Int32) × (Nat → Int32)) (h : fX0_seek vxns fxnd vxgs fxgd fxc vos fod p1 = some res) : Met l yX0_seek wsX0_seek ({ frames := 3, cells := 0, slots := 0, locals := 75 }) (va_Pc [.ref ax, .ref ao, .int p1] (PW (dC, dI) cy sz [(ax, .inr (0, [.ref axn, .ref axg, .ref axc])), (axn, .inr (2, [.ref axnd, .int vxns])), (axnd, .inl (cy, 8, .inl fxnd)), (axg, .inr (2, [.ref axgd, .int vxgs])), (axgd, .inl (cy, 8, .inl fxgd)), (axc, .inl (cy, 36, .inl fxc)), (ao, .inr (2, [.ref aod, .int vos])), (aod, .inl (cy, 8, .inl fod))])) (va_Qi (fun (r : Int32) (_ : Unit) => r = res.1) (QW (dC, dI) cy (va_A [(ax, .inr (0, [.ref axn, .ref axg, .ref axc])), (axn, .inr (2, [.ref axnd, .int vxns])), (axnd, .inl (cy, 8, .inl fxnd)), (axg, .inr (2, [.ref axgd, .int vxgs])), (axgd, .inl (cy, 8, .inl fxgd)), (axc, .inl (cy, 36, .inl fxc)), (ao, .inr (2, [.ref aod, .int vos])), (aod, .inl (cy, 8, .inl fod))] sz) [(ax, .inr (0, [.ref axn, .ref axg, .ref axc])), (axn, .inr (2, [.ref axnd, .int res.2.1])), (axnd, .inl (cy, 8, .inl res.2.2.1)), (axg, .inr (2, [.ref axgd, .int res.2.2.2.1])), (axgd, .inl (cy, 8, .inl res.2.2.2.2.1)), (axc, .inl (cy, 36, .inl res.2.2.2.2.2)), (ao, .inr (2, [.ref aod, .int vos])), (aod, .inl (cy, 8, .inl fod))]) (va_A [(ax, .inr (0, [.ref axn, .ref axg, .ref axc])), (axn, .inr (2, [.ref axnd, .int vxns])), (axnd, .inl (cy, 8, .inl fxnd)), (axg, .inr (2, [.ref axgd, .int vxgs])), (axgd, .inl (cy, 8, .inl fxgd)), (axc, .inl (cy, 36, .inl fxc)), (ao, .inr (2, [.ref aod, .int vos])), (aod, .inl (cy, 8, .inl fod))] sz)) 0 0 (va_A [(ax, .inr (0, [.ref axn, .ref axg, .ref axc])), (axn, .inr (2, [.ref axnd, .int vxns])), (axnd, .inl (cy, 8, .inl fxnd)), (axg, .inr (2, [.ref axgd, .int vxgs])), (axgd, .inl (cy, 8, .inl fxgd)), (axc, .inl (cy, 36, .inl fxc)), (ao, .inr (2, [.ref aod, .int vos])), (aod, .inl (cy, 8, .inl fod))] sz) := by
  refine Met.ofW (cc := cX0_seek) (maxL := 3) (ret := (some .int)) (by decide) rfl ?_
  intro p e s m args below meth c s₁ B hml hv
  obtain ⟨rfl, hsz, hP, hK, hD0, hN⟩ := hv
  have hx := B.exec
  have hb := B.bytes
  have hr := B.returns
  have hts := atoms_spec (ws := wsX0_seek) B.pre
  have hown : s.vm.findClass RX0 = some m.cls := findClass_of_methodNamed B.named
  have hlocks := B.notSynchronized
  subst hsz
  have hD := hD0.self (sz := s.heap.size)
  clear hD0
  generalize hAe : va_A [(ax, .inr (0, [.ref axn, .ref axg, .ref axc])), (axn, .inr (2, [.ref axnd, .int vxns])), (axnd, .inl (cy, 8, .inl fxnd)), (axg, .inr (2, [.ref axgd, .int vxgs])), (axgd, .inl (cy, 8, .inl fxgd)), (axc, .inl (cy, 36, .inl fxc)), (ao, .inr (2, [.ref aod, .int vos])), (aod, .inl (cy, 8, .inl fod))] s.heap.size = A at hD ⊢
  have hA : ∀ q : Nat, s.heap.size ≤ q → A q := fun q h => by rw [← hAe]; exact Or.inr h
  have hS : va_S A s.heap s.heap [] := va_S.rf
  have hl := lv_entry ([.ref ax, .ref ao, .int p1]) (n := 3) (Nat.le_of_ble_eq_true rfl)
  rw [lg_entry_eq]
  generalize (lg_sl ([.ref ax, .ref ao, .int p1]) ++ List.replicate (3 - (lg_sl ([.ref ax, .ref ao, .int p1])).length) Slot.unset).toArray = ls at hl ⊢
  replace hl : lv_has ls 3 [(0, .ref ax), (1, .ref ao), (2, .int p1)] := hl
  replace hP : va_P (dC, dI) vwCl [(ax, .inr (0, [.ref axn, .ref axg, .ref axc])), (axn, .inr (2, [.ref axnd, .int vxns])), (axnd, .inl (cy, 8, .inl fxnd)), (axg, .inr (2, [.ref axgd, .int vxgs])), (axgd, .inl (cy, 8, .inl fxgd)), (axc, .inl (cy, 36, .inl fxc)), (ao, .inr (2, [.ref aod, .int vos])), (aod, .inl (cy, 8, .inl fod))] s.heap := hP
  obtain ⟨locs, hlocs⟩ : ∃ lc : List Loc, lc = [] := ⟨_, rfl⟩
  rw [← hlocs] at hS ⊢
  obtain ⟨H, hH⟩ : ∃ H : Heap, H = s.heap := ⟨_, rfl⟩
  have hP2 := hP; rw [← hH] at hP2
  have hS2 : va_S A s.heap H locs := by rw [hH]; exact hS
  suffices hgo : W p l e (headSpec wsX0_seek ({ frames := 3, cells := 0, slots := 0, locals := 75 })).room s m (([.ref ax, .ref ao, .int p1] : List Value).toArray) below meth c H locs 0 0 (MQ below (va_Qi (fun (r : Int32) (_ : Unit) => r = res.1) (QW (dC, dI) cy A [(ax, .inr (0, [.ref axn, .ref axg, .ref axc])), (axn, .inr (2, [.ref axnd, .int res.2.1])), (axnd, .inl (cy, 8, .inl res.2.2.1)), (axg, .inr (2, [.ref axgd, .int res.2.2.2.1])), (axgd, .inl (cy, 8, .inl res.2.2.2.2.1)), (axc, .inl (cy, 36, .inl res.2.2.2.2.2)), (ao, .inr (2, [.ref aod, .int vos])), (aod, .inl (cy, 8, .inl fod))]) A) (([.ref ax, .ref ao, .int p1] : List Value).toArray) s 0 0 A) (F0 m 0 ls []) by rw [hH] at hgo; exact hgo
  replace hP := hP2
  replace hS := hS2
  clear hP2 hS2
  have hin_X0 : ∀ w ∈ wsX00, w ∈ wsX0_seek := by decide +kernel
  have hf_12 := hts (.fieldLink RX0 12 "FewLooks$Mender" "near" "LFewLooks$Row;") (by decide +kernel)
  unfold fX0_seek at h
  refine lv_aload_n hx hb dX0_seek_0 rfl (lv_at hl 0 rfl) ?_
  refine va_get (D := (dC, dI)) (ci := 0) (v := .ref axn) (C := RX0) (T := TX0) (N := 3) hx hb hts hin_X0 hown hK hP 0 rfl rfl 0 (by decide) (hf_12) (fun _ h9 => h9) rfl dX0_seek_1 ?_
  refine lv_aload_n hx hb dX0_seek_4 rfl (lv_at hl 1 rfl) ?_
  obtain ⟨r1, hr1, h⟩ := bd_some h
  have hFc := va_free (wc := [(axn, .inr (2, [.ref axnd, .int vxns])), (axnd, .inl (cy, 8, .inl fxnd)), (ao, .inr (2, [.ref aod, .int vos])), (aod, .inl (cy, 8, .inl fod))]) hD hS hA [1, 2, 6, 7] rfl
  refine va_callv (va_runV (As := [.ref ao]) (rest := []) ⟨hx, hb, hml, hown, hts⟩ (c_X2_become l dC dI cy axn axnd ao aod H.size vxns fxnd vos fod  r1 hr1) (cwV 1 hts gX0_seek_X2_become rfl rfl rfl (by decide +kernel) ⟨Nat.le_of_ble_eq_true rfl, Nat.le_of_ble_eq_true rfl⟩) ⟨PW_fb, va_recv hK hP (ci := 2) (q0 := 1) rfl rfl, PW_pre (hP.sub (ws' := [(axn, .inr (2, [.ref axnd, .int vxns])), (axnd, .inl (cy, 8, .inl fxnd)), (ao, .inr (2, [.ref aod, .int vos])), (aod, .inl (cy, 8, .inl fod))]) [1, 2, 6, 7] rfl) hK (hD.sub [1, 2, 6, 7] (by decide) rfl) hN⟩ rfl rfl hl.1 rfl (lv_room (Nat.le_of_ble_eq_true rfl)) dX0_seek_5 ⟨Nat.zero_le _, Nat.zero_le _⟩) hS (fun q _ h => hFc q h) hFc (fun u t H locs ht hvm hw hB hz1 hk1 hS => ?_)
  obtain ⟨hP, hD⟩ := jn (wr := [(ax, .inr (0, [.ref axn, .ref axg, .ref axc])), (axg, .inr (2, [.ref axgd, .int vxgs])), (axgd, .inl (cy, 8, .inl fxgd)), (axc, .inl (cy, 36, .inl fxc))]) (w1 := [(axn, .inr (2, [.ref axnd, .int r1.1])), (axnd, .inl (cy, 8, .inl r1.2)), (ao, .inr (2, [.ref aod, .int vos])), (aod, .inl (cy, 8, .inl fod))]) (ws' := [(ax, .inr (0, [.ref axn, .ref axg, .ref axc])), (axn, .inr (2, [.ref axnd, .int r1.1])), (axnd, .inl (cy, 8, .inl r1.2)), (axg, .inr (2, [.ref axgd, .int vxgs])), (axgd, .inl (cy, 8, .inl fxgd)), (axc, .inl (cy, 36, .inl fxc)), (ao, .inr (2, [.ref aod, .int vos])), (aod, .inl (cy, 8, .inl fod))]) hP hD [1, 2, 6, 7] [0, 3, 4, 5] rfl rfl (by decide) (by decide) hk1 hFc hB ht [0, 4, 5, 1, 2, 3, 6, 7] rfl (by decide) rfl
  clear hFc hB hk1 hz1 hvm
  refine lv_iload_n hx hb dX0_seek_8 rfl (lv_at hl 2 rfl) ?_
  by_cases c2 : p1 = (0 : Int32)
  · rw [if_pos c2] at h
    have ec2 : (p1).toInt = 0 := by rw [c2]; rfl
    refine lv_tableIn (tgt := 36) hx hb dX0_seek_9 (by rw [ec2]; decide) (by rw [ec2]; decide) (by rw [ec2]; rfl) (by decide) ?_
    refine lv_aload_n hx hb dX0_seek_36 rfl (lv_at hl 0 rfl) ?_
    refine lv_aload_n hx hb dX0_seek_37 rfl (lv_at hl 1 rfl) ?_
    obtain ⟨r3, hr3, h⟩ := bd_some h
    have hFc := va_free (wc := [(ax, .inr (0, [.ref axn, .ref axg, .ref axc])), (axn, .inr (2, [.ref axnd, .int r1.1])), (axnd, .inl (cy, 8, .inl r1.2)), (axc, .inl (cy, 36, .inl fxc)), (ao, .inr (2, [.ref aod, .int vos])), (aod, .inl (cy, 8, .inl fod))]) hD hS hA [0, 1, 2, 5, 6, 7] rfl
    refine va_callv (va_runV (As := [.ref ao]) (rest := []) ⟨hx, hb, hml, hown, hts⟩ (c_X0_raise l dC dI cy ax axn axg axc axnd ao aod H.size r1.1 r1.2 fxc vos fod  r3 hr3) (cwV 1 hts gX0_seek_X0_raise rfl rfl rfl (by decide +kernel) ⟨Nat.le_of_ble_eq_true rfl, Nat.le_of_ble_eq_true rfl⟩) ⟨PW_fb, va_recv hK hP (ci := 0) (q0 := 0) rfl rfl, PW_pre (hP.sub (ws' := [(ax, .inr (0, [.ref axn, .ref axg, .ref axc])), (axn, .inr (2, [.ref axnd, .int r1.1])), (axnd, .inl (cy, 8, .inl r1.2)), (axc, .inl (cy, 36, .inl fxc)), (ao, .inr (2, [.ref aod, .int vos])), (aod, .inl (cy, 8, .inl fod))]) [0, 1, 2, 5, 6, 7] rfl) hK (hD.sub [0, 1, 2, 5, 6, 7] (by decide) rfl) hN⟩ rfl rfl hl.1 rfl (lv_room (Nat.le_of_ble_eq_true rfl)) dX0_seek_38 ⟨Nat.zero_le _, Nat.zero_le _⟩) hS (fun q _ h => hFc q h) hFc (fun u t H locs ht hvm hw hB hz1 hk1 hS => ?_)
    obtain ⟨hP, hD⟩ := jn (wr := [(axg, .inr (2, [.ref axgd, .int vxgs])), (axgd, .inl (cy, 8, .inl fxgd))]) (w1 := [(ax, .inr (0, [.ref axn, .ref axg, .ref axc])), (axn, .inr (2, [.ref axnd, .int r1.1])), (axnd, .inl (cy, 8, .inl r3.1)), (axc, .inl (cy, 36, .inl r3.2)), (ao, .inr (2, [.ref aod, .int vos])), (aod, .inl (cy, 8, .inl fod))]) (ws' := [(ax, .inr (0, [.ref axn, .ref axg, .ref axc])), (axn, .inr (2, [.ref axnd, .int r1.1])), (axnd, .inl (cy, 8, .inl r3.1)), (axg, .inr (2, [.ref axgd, .int vxgs])), (axgd, .inl (cy, 8, .inl fxgd)), (axc, .inl (cy, 36, .inl r3.2)), (ao, .inr (2, [.ref aod, .int vos])), (aod, .inl (cy, 8, .inl fod))]) hP hD [0, 1, 2, 5, 6, 7] [3, 4] rfl rfl (by decide) (by decide) hk1 hFc hB ht [2, 3, 4, 0, 1, 5, 6, 7] rfl (by decide) rfl
    clear hFc hB hk1 hz1 hvm
    refine lv_goto (tgt := 64) hx hb dX0_seek_41 (by decide) ?_
    refine lv_aload_n hx hb dX0_seek_64 rfl (lv_at hl 1 rfl) ?_
    refine lv_aload_n hx hb dX0_seek_65 rfl (lv_at hl 0 rfl) ?_
    refine va_get (D := (dC, dI)) (ci := 0) (v := .ref axn) (C := RX0) (T := TX0) (N := 3) hx hb hts hin_X0 hown hK hP 0 rfl rfl 0 (by decide) (hf_12) (fun _ h9 => h9) rfl dX0_seek_66 ?_
    obtain ⟨r4, hr4, h⟩ := bd_some h
    have hFc := va_free (wc := [(ao, .inr (2, [.ref aod, .int vos])), (aod, .inl (cy, 8, .inl fod)), (axn, .inr (2, [.ref axnd, .int r1.1])), (axnd, .inl (cy, 8, .inl r3.1))]) hD hS hA [6, 7, 1, 2] rfl
    refine va_calli (va_runV (As := [.ref axn]) (rest := []) ⟨hx, hb, hml, hown, hts⟩ (c_X2_differing l dC dI cy ao aod axn axnd H.size vos fod r1.1 r3.1  r4 hr4) (cwV 1 hts gX0_seek_X2_differing rfl rfl rfl (by decide +kernel) ⟨Nat.le_of_ble_eq_true rfl, Nat.le_of_ble_eq_true rfl⟩) ⟨PW_fb, va_recv hK hP (ci := 2) (q0 := 6) rfl rfl, PW_pre (hP.sub (ws' := [(ao, .inr (2, [.ref aod, .int vos])), (aod, .inl (cy, 8, .inl fod)), (axn, .inr (2, [.ref axnd, .int r1.1])), (axnd, .inl (cy, 8, .inl r3.1))]) [6, 7, 1, 2] rfl) hK (hD.sub [6, 7, 1, 2] (by decide) rfl) hN⟩ rfl rfl hl.1 rfl (lv_room (Nat.le_of_ble_eq_true rfl)) dX0_seek_69 ⟨Nat.zero_le _, Nat.zero_le _⟩) hS (fun q _ h => hFc q h) hFc (fun rz u t H locs ht hvm hw hB hz1 hk1 hS => ?_)
    obtain ⟨hP, hD⟩ := jn (wr := [(ax, .inr (0, [.ref axn, .ref axg, .ref axc])), (axg, .inr (2, [.ref axgd, .int vxgs])), (axgd, .inl (cy, 8, .inl fxgd)), (axc, .inl (cy, 36, .inl r3.2))]) (w1 := [(ao, .inr (2, [.ref aod, .int vos])), (aod, .inl (cy, 8, .inl fod)), (axn, .inr (2, [.ref axnd, .int r1.1])), (axnd, .inl (cy, 8, .inl r3.1))]) (ws' := [(ax, .inr (0, [.ref axn, .ref axg, .ref axc])), (axn, .inr (2, [.ref axnd, .int r1.1])), (axnd, .inl (cy, 8, .inl r3.1)), (axg, .inr (2, [.ref axgd, .int vxgs])), (axgd, .inl (cy, 8, .inl fxgd)), (axc, .inl (cy, 36, .inl r3.2)), (ao, .inr (2, [.ref aod, .int vos])), (aod, .inl (cy, 8, .inl fod))]) hP hD [6, 7, 1, 2] [0, 3, 4, 5] rfl rfl (by decide) (by decide) hk1 hFc hB ht [0, 6, 7, 1, 2, 3, 4, 5] rfl (by decide) rfl
    replace hw := hw.symm
    subst hw
    clear hFc hB hk1 hz1 hvm
    have h0 := Option.some.inj h
    subst h0
    exact W.iret hx hb hr (fun t ht hW => ⟨⟨_, (), rfl, rfl, QW_mk hP hK hD ht hW⟩, hS.F ht⟩) hS.2.2 dX0_seek_72
  · rw [if_neg c2] at h
    by_cases c5 : p1 = (1 : Int32)
    · rw [if_pos c5] at h
      have ec5 : (p1).toInt = 1 := by rw [c5]; rfl
      refine lv_tableIn (tgt := 44) hx hb dX0_seek_9 (by rw [ec5]; decide) (by rw [ec5]; decide) (by rw [ec5]; rfl) (by decide) ?_
      refine lv_aload_n hx hb dX0_seek_44 rfl (lv_at hl 0 rfl) ?_
      refine lv_aload_n hx hb dX0_seek_45 rfl (lv_at hl 1 rfl) ?_
      obtain ⟨r6, hr6, h⟩ := bd_some h
      have hFc := va_free (wc := [(ax, .inr (0, [.ref axn, .ref axg, .ref axc])), (axn, .inr (2, [.ref axnd, .int r1.1])), (axnd, .inl (cy, 8, .inl r1.2)), (ao, .inr (2, [.ref aod, .int vos])), (aod, .inl (cy, 8, .inl fod))]) hD hS hA [0, 1, 2, 6, 7] rfl
      refine va_callv (va_runV (As := [.ref ao]) (rest := []) ⟨hx, hb, hml, hown, hts⟩ (c_X0_mirror l dC dI cy ax axn axg axc axnd ao aod H.size r1.1 r1.2 vos fod  r6 hr6) (cwV 1 hts gX0_seek_X0_mirror rfl rfl rfl (by decide +kernel) ⟨Nat.le_of_ble_eq_true rfl, Nat.le_of_ble_eq_true rfl⟩) ⟨PW_fb, va_recv hK hP (ci := 0) (q0 := 0) rfl rfl, PW_pre (hP.sub (ws' := [(ax, .inr (0, [.ref axn, .ref axg, .ref axc])), (axn, .inr (2, [.ref axnd, .int r1.1])), (axnd, .inl (cy, 8, .inl r1.2)), (ao, .inr (2, [.ref aod, .int vos])), (aod, .inl (cy, 8, .inl fod))]) [0, 1, 2, 6, 7] rfl) hK (hD.sub [0, 1, 2, 6, 7] (by decide) rfl) hN⟩ rfl rfl hl.1 rfl (lv_room (Nat.le_of_ble_eq_true rfl)) dX0_seek_46 ⟨Nat.zero_le _, Nat.zero_le _⟩) hS (fun q _ h => hFc q h) hFc (fun u t H locs ht hvm hw hB hz1 hk1 hS => ?_)
      obtain ⟨hP, hD⟩ := jn (wr := [(axg, .inr (2, [.ref axgd, .int vxgs])), (axgd, .inl (cy, 8, .inl fxgd)), (axc, .inl (cy, 36, .inl fxc))]) (w1 := [(ax, .inr (0, [.ref axn, .ref axg, .ref axc])), (axn, .inr (2, [.ref axnd, .int r1.1])), (axnd, .inl (cy, 8, .inl r6)), (ao, .inr (2, [.ref aod, .int vos])), (aod, .inl (cy, 8, .inl fod))]) (ws' := [(ax, .inr (0, [.ref axn, .ref axg, .ref axc])), (axn, .inr (2, [.ref axnd, .int r1.1])), (axnd, .inl (cy, 8, .inl r6)), (axg, .inr (2, [.ref axgd, .int vxgs])), (axgd, .inl (cy, 8, .inl fxgd)), (axc, .inl (cy, 36, .inl fxc)), (ao, .inr (2, [.ref aod, .int vos])), (aod, .inl (cy, 8, .inl fod))]) hP hD [0, 1, 2, 6, 7] [3, 4, 5] rfl rfl (by decide) (by decide) hk1 hFc hB ht [3, 4, 5, 0, 1, 2, 6, 7] rfl (by decide) rfl
      clear hFc hB hk1 hz1 hvm
      refine lv_goto (tgt := 64) hx hb dX0_seek_49 (by decide) ?_
      refine lv_aload_n hx hb dX0_seek_64 rfl (lv_at hl 1 rfl) ?_
      refine lv_aload_n hx hb dX0_seek_65 rfl (lv_at hl 0 rfl) ?_
      refine va_get (D := (dC, dI)) (ci := 0) (v := .ref axn) (C := RX0) (T := TX0) (N := 3) hx hb hts hin_X0 hown hK hP 0 rfl rfl 0 (by decide) (hf_12) (fun _ h9 => h9) rfl dX0_seek_66 ?_
      obtain ⟨r7, hr7, h⟩ := bd_some h
      have hFc := va_free (wc := [(ao, .inr (2, [.ref aod, .int vos])), (aod, .inl (cy, 8, .inl fod)), (axn, .inr (2, [.ref axnd, .int r1.1])), (axnd, .inl (cy, 8, .inl r6))]) hD hS hA [6, 7, 1, 2] rfl
      refine va_calli (va_runV (As := [.ref axn]) (rest := []) ⟨hx, hb, hml, hown, hts⟩ (c_X2_differing l dC dI cy ao aod axn axnd H.size vos fod r1.1 r6  r7 hr7) (cwV 1 hts gX0_seek_X2_differing rfl rfl rfl (by decide +kernel) ⟨Nat.le_of_ble_eq_true rfl, Nat.le_of_ble_eq_true rfl⟩) ⟨PW_fb, va_recv hK hP (ci := 2) (q0 := 6) rfl rfl, PW_pre (hP.sub (ws' := [(ao, .inr (2, [.ref aod, .int vos])), (aod, .inl (cy, 8, .inl fod)), (axn, .inr (2, [.ref axnd, .int r1.1])), (axnd, .inl (cy, 8, .inl r6))]) [6, 7, 1, 2] rfl) hK (hD.sub [6, 7, 1, 2] (by decide) rfl) hN⟩ rfl rfl hl.1 rfl (lv_room (Nat.le_of_ble_eq_true rfl)) dX0_seek_69 ⟨Nat.zero_le _, Nat.zero_le _⟩) hS (fun q _ h => hFc q h) hFc (fun rz u t H locs ht hvm hw hB hz1 hk1 hS => ?_)
      obtain ⟨hP, hD⟩ := jn (wr := [(ax, .inr (0, [.ref axn, .ref axg, .ref axc])), (axg, .inr (2, [.ref axgd, .int vxgs])), (axgd, .inl (cy, 8, .inl fxgd)), (axc, .inl (cy, 36, .inl fxc))]) (w1 := [(ao, .inr (2, [.ref aod, .int vos])), (aod, .inl (cy, 8, .inl fod)), (axn, .inr (2, [.ref axnd, .int r1.1])), (axnd, .inl (cy, 8, .inl r6))]) (ws' := [(ax, .inr (0, [.ref axn, .ref axg, .ref axc])), (axn, .inr (2, [.ref axnd, .int r1.1])), (axnd, .inl (cy, 8, .inl r6)), (axg, .inr (2, [.ref axgd, .int vxgs])), (axgd, .inl (cy, 8, .inl fxgd)), (axc, .inl (cy, 36, .inl fxc)), (ao, .inr (2, [.ref aod, .int vos])), (aod, .inl (cy, 8, .inl fod))]) hP hD [6, 7, 1, 2] [0, 3, 4, 5] rfl rfl (by decide) (by decide) hk1 hFc hB ht [0, 6, 7, 1, 2, 3, 4, 5] rfl (by decide) rfl
      replace hw := hw.symm
      subst hw
      clear hFc hB hk1 hz1 hvm
      have h0 := Option.some.inj h
      subst h0
      exact W.iret hx hb hr (fun t ht hW => ⟨⟨_, (), rfl, rfl, QW_mk hP hK hD ht hW⟩, hS.F ht⟩) hS.2.2 dX0_seek_72
    · rw [if_neg c5] at h
      by_cases c8 : p1 = (2 : Int32)
      · rw [if_pos c8] at h
        have ec8 : (p1).toInt = 2 := by rw [c8]; rfl
        refine lv_tableIn (tgt := 52) hx hb dX0_seek_9 (by rw [ec8]; decide) (by rw [ec8]; decide) (by rw [ec8]; rfl) (by decide) ?_
        refine lv_aload_n hx hb dX0_seek_52 rfl (lv_at hl 0 rfl) ?_
        obtain ⟨r9, hr9, h⟩ := bd_some h
        have hFc := va_free (wc := [(ax, .inr (0, [.ref axn, .ref axg, .ref axc])), (axn, .inr (2, [.ref axnd, .int r1.1])), (axnd, .inl (cy, 8, .inl r1.2))]) hD hS hA [0, 1, 2] rfl
        refine va_callv (va_runV (As := []) (rest := []) ⟨hx, hb, hml, hown, hts⟩ (c_X0_makeEven l dC dI cy ax axn axg axc axnd H.size r1.1 r1.2  r9 hr9) (cwV 0 hts gX0_seek_X0_makeEven rfl rfl rfl (by decide +kernel) ⟨Nat.le_of_ble_eq_true rfl, Nat.le_of_ble_eq_true rfl⟩) ⟨PW_fb, va_recv hK hP (ci := 0) (q0 := 0) rfl rfl, PW_pre (hP.sub (ws' := [(ax, .inr (0, [.ref axn, .ref axg, .ref axc])), (axn, .inr (2, [.ref axnd, .int r1.1])), (axnd, .inl (cy, 8, .inl r1.2))]) [0, 1, 2] rfl) hK (hD.sub [0, 1, 2] (by decide) rfl) hN⟩ rfl rfl hl.1 rfl (lv_room (Nat.le_of_ble_eq_true rfl)) dX0_seek_53 ⟨Nat.zero_le _, Nat.zero_le _⟩) hS (fun q _ h => hFc q h) hFc (fun u t H locs ht hvm hw hB hz1 hk1 hS => ?_)
        obtain ⟨hP, hD⟩ := jn (wr := [(axg, .inr (2, [.ref axgd, .int vxgs])), (axgd, .inl (cy, 8, .inl fxgd)), (axc, .inl (cy, 36, .inl fxc)), (ao, .inr (2, [.ref aod, .int vos])), (aod, .inl (cy, 8, .inl fod))]) (w1 := [(ax, .inr (0, [.ref axn, .ref axg, .ref axc])), (axn, .inr (2, [.ref axnd, .int r1.1])), (axnd, .inl (cy, 8, .inl r9))]) (ws' := [(ax, .inr (0, [.ref axn, .ref axg, .ref axc])), (axn, .inr (2, [.ref axnd, .int r1.1])), (axnd, .inl (cy, 8, .inl r9)), (axg, .inr (2, [.ref axgd, .int vxgs])), (axgd, .inl (cy, 8, .inl fxgd)), (axc, .inl (cy, 36, .inl fxc)), (ao, .inr (2, [.ref aod, .int vos])), (aod, .inl (cy, 8, .inl fod))]) hP hD [0, 1, 2] [3, 4, 5, 6, 7] rfl rfl (by decide) (by decide) hk1 hFc hB ht [5, 6, 7, 0, 1, 2, 3, 4] rfl (by decide) rfl
        clear hFc hB hk1 hz1 hvm
        refine lv_goto (tgt := 64) hx hb dX0_seek_56 (by decide) ?_
        refine lv_aload_n hx hb dX0_seek_64 rfl (lv_at hl 1 rfl) ?_
        refine lv_aload_n hx hb dX0_seek_65 rfl (lv_at hl 0 rfl) ?_
        refine va_get (D := (dC, dI)) (ci := 0) (v := .ref axn) (C := RX0) (T := TX0) (N := 3) hx hb hts hin_X0 hown hK hP 0 rfl rfl 0 (by decide) (hf_12) (fun _ h9 => h9) rfl dX0_seek_66 ?_
        obtain ⟨r10, hr10, h⟩ := bd_some h
        have hFc := va_free (wc := [(ao, .inr (2, [.ref aod, .int vos])), (aod, .inl (cy, 8, .inl fod)), (axn, .inr (2, [.ref axnd, .int r1.1])), (axnd, .inl (cy, 8, .inl r9))]) hD hS hA [6, 7, 1, 2] rfl
        refine va_calli (va_runV (As := [.ref axn]) (rest := []) ⟨hx, hb, hml, hown, hts⟩ (c_X2_differing l dC dI cy ao aod axn axnd H.size vos fod r1.1 r9  r10 hr10) (cwV 1 hts gX0_seek_X2_differing rfl rfl rfl (by decide +kernel) ⟨Nat.le_of_ble_eq_true rfl, Nat.le_of_ble_eq_true rfl⟩) ⟨PW_fb, va_recv hK hP (ci := 2) (q0 := 6) rfl rfl, PW_pre (hP.sub (ws' := [(ao, .inr (2, [.ref aod, .int vos])), (aod, .inl (cy, 8, .inl fod)), (axn, .inr (2, [.ref axnd, .int r1.1])), (axnd, .inl (cy, 8, .inl r9))]) [6, 7, 1, 2] rfl) hK (hD.sub [6, 7, 1, 2] (by decide) rfl) hN⟩ rfl rfl hl.1 rfl (lv_room (Nat.le_of_ble_eq_true rfl)) dX0_seek_69 ⟨Nat.zero_le _, Nat.zero_le _⟩) hS (fun q _ h => hFc q h) hFc (fun rz u t H locs ht hvm hw hB hz1 hk1 hS => ?_)
        obtain ⟨hP, hD⟩ := jn (wr := [(ax, .inr (0, [.ref axn, .ref axg, .ref axc])), (axg, .inr (2, [.ref axgd, .int vxgs])), (axgd, .inl (cy, 8, .inl fxgd)), (axc, .inl (cy, 36, .inl fxc))]) (w1 := [(ao, .inr (2, [.ref aod, .int vos])), (aod, .inl (cy, 8, .inl fod)), (axn, .inr (2, [.ref axnd, .int r1.1])), (axnd, .inl (cy, 8, .inl r9))]) (ws' := [(ax, .inr (0, [.ref axn, .ref axg, .ref axc])), (axn, .inr (2, [.ref axnd, .int r1.1])), (axnd, .inl (cy, 8, .inl r9)), (axg, .inr (2, [.ref axgd, .int vxgs])), (axgd, .inl (cy, 8, .inl fxgd)), (axc, .inl (cy, 36, .inl fxc)), (ao, .inr (2, [.ref aod, .int vos])), (aod, .inl (cy, 8, .inl fod))]) hP hD [6, 7, 1, 2] [0, 3, 4, 5] rfl rfl (by decide) (by decide) hk1 hFc hB ht [0, 6, 7, 1, 2, 3, 4, 5] rfl (by decide) rfl
        replace hw := hw.symm
        subst hw
        clear hFc hB hk1 hz1 hvm
        have h0 := Option.some.inj h
        subst h0
        exact W.iret hx hb hr (fun t ht hW => ⟨⟨_, (), rfl, rfl, QW_mk hP hK hD ht hW⟩, hS.F ht⟩) hS.2.2 dX0_seek_72
      · rw [if_neg c8] at h
        have hout := tb_out (x := p1) (n := 3) (by decide) (fun k hk => by rcases (show k = 0 ∨ k = 1 ∨ k = 2 by omega) with rfl | rfl | rfl; all_goals assumption)
        refine lv_tableOut (tgt := 59) hx hb dX0_seek_9 hout (by decide) ?_
        refine lv_aload_n hx hb dX0_seek_59 rfl (lv_at hl 0 rfl) ?_
        refine lv_aload_n hx hb dX0_seek_60 rfl (lv_at hl 1 rfl) ?_
        obtain ⟨r11, hr11, h⟩ := bd_some h
        have hFc := va_free (wc := [(ax, .inr (0, [.ref axn, .ref axg, .ref axc])), (axn, .inr (2, [.ref axnd, .int r1.1])), (axnd, .inl (cy, 8, .inl r1.2)), (axg, .inr (2, [.ref axgd, .int vxgs])), (axgd, .inl (cy, 8, .inl fxgd)), (ao, .inr (2, [.ref aod, .int vos])), (aod, .inl (cy, 8, .inl fod))]) hD hS hA [0, 1, 2, 3, 4, 6, 7] rfl
        refine va_callv (va_runV (As := [.ref ao]) (rest := []) ⟨hx, hb, hml, hown, hts⟩ (c_X0_makeRound l dC dI cy ax axn axg axc axnd axgd ao aod H.size r1.1 r1.2 vxgs fxgd vos fod  r11 hr11) (cwV 1 hts gX0_seek_X0_makeRound rfl rfl rfl (by decide +kernel) ⟨Nat.le_of_ble_eq_true rfl, Nat.le_of_ble_eq_true rfl⟩) ⟨PW_fb, va_recv hK hP (ci := 0) (q0 := 0) rfl rfl, PW_pre (hP.sub (ws' := [(ax, .inr (0, [.ref axn, .ref axg, .ref axc])), (axn, .inr (2, [.ref axnd, .int r1.1])), (axnd, .inl (cy, 8, .inl r1.2)), (axg, .inr (2, [.ref axgd, .int vxgs])), (axgd, .inl (cy, 8, .inl fxgd)), (ao, .inr (2, [.ref aod, .int vos])), (aod, .inl (cy, 8, .inl fod))]) [0, 1, 2, 3, 4, 6, 7] rfl) hK (hD.sub [0, 1, 2, 3, 4, 6, 7] (by decide) rfl) hN⟩ rfl rfl hl.1 rfl (lv_room (Nat.le_of_ble_eq_true rfl)) dX0_seek_61 ⟨Nat.zero_le _, Nat.zero_le _⟩) hS (fun q _ h => hFc q h) hFc (fun u t H locs ht hvm hw hB hz1 hk1 hS => ?_)
        obtain ⟨hP, hD⟩ := jn (wr := [(axc, .inl (cy, 36, .inl fxc))]) (w1 := [(ax, .inr (0, [.ref axn, .ref axg, .ref axc])), (axn, .inr (2, [.ref axnd, .int r11.1])), (axnd, .inl (cy, 8, .inl r11.2.1)), (axg, .inr (2, [.ref axgd, .int r11.2.2.1])), (axgd, .inl (cy, 8, .inl r11.2.2.2)), (ao, .inr (2, [.ref aod, .int vos])), (aod, .inl (cy, 8, .inl fod))]) (ws' := [(ax, .inr (0, [.ref axn, .ref axg, .ref axc])), (axn, .inr (2, [.ref axnd, .int r11.1])), (axnd, .inl (cy, 8, .inl r11.2.1)), (axg, .inr (2, [.ref axgd, .int r11.2.2.1])), (axgd, .inl (cy, 8, .inl r11.2.2.2)), (axc, .inl (cy, 36, .inl fxc)), (ao, .inr (2, [.ref aod, .int vos])), (aod, .inl (cy, 8, .inl fod))]) hP hD [0, 1, 2, 3, 4, 6, 7] [5] rfl rfl (by decide) (by decide) hk1 hFc hB ht [1, 2, 3, 4, 5, 0, 6, 7] rfl (by decide) rfl
        clear hFc hB hk1 hz1 hvm
        refine lv_aload_n hx hb dX0_seek_64 rfl (lv_at hl 1 rfl) ?_
        refine lv_aload_n hx hb dX0_seek_65 rfl (lv_at hl 0 rfl) ?_
        refine va_get (D := (dC, dI)) (ci := 0) (v := .ref axn) (C := RX0) (T := TX0) (N := 3) hx hb hts hin_X0 hown hK hP 0 rfl rfl 0 (by decide) (hf_12) (fun _ h9 => h9) rfl dX0_seek_66 ?_
        obtain ⟨r12, hr12, h⟩ := bd_some h
        have hFc := va_free (wc := [(ao, .inr (2, [.ref aod, .int vos])), (aod, .inl (cy, 8, .inl fod)), (axn, .inr (2, [.ref axnd, .int r11.1])), (axnd, .inl (cy, 8, .inl r11.2.1))]) hD hS hA [6, 7, 1, 2] rfl
        refine va_calli (va_runV (As := [.ref axn]) (rest := []) ⟨hx, hb, hml, hown, hts⟩ (c_X2_differing l dC dI cy ao aod axn axnd H.size vos fod r11.1 r11.2.1  r12 hr12) (cwV 1 hts gX0_seek_X2_differing rfl rfl rfl (by decide +kernel) ⟨Nat.le_of_ble_eq_true rfl, Nat.le_of_ble_eq_true rfl⟩) ⟨PW_fb, va_recv hK hP (ci := 2) (q0 := 6) rfl rfl, PW_pre (hP.sub (ws' := [(ao, .inr (2, [.ref aod, .int vos])), (aod, .inl (cy, 8, .inl fod)), (axn, .inr (2, [.ref axnd, .int r11.1])), (axnd, .inl (cy, 8, .inl r11.2.1))]) [6, 7, 1, 2] rfl) hK (hD.sub [6, 7, 1, 2] (by decide) rfl) hN⟩ rfl rfl hl.1 rfl (lv_room (Nat.le_of_ble_eq_true rfl)) dX0_seek_69 ⟨Nat.zero_le _, Nat.zero_le _⟩) hS (fun q _ h => hFc q h) hFc (fun rz u t H locs ht hvm hw hB hz1 hk1 hS => ?_)
        obtain ⟨hP, hD⟩ := jn (wr := [(ax, .inr (0, [.ref axn, .ref axg, .ref axc])), (axg, .inr (2, [.ref axgd, .int r11.2.2.1])), (axgd, .inl (cy, 8, .inl r11.2.2.2)), (axc, .inl (cy, 36, .inl fxc))]) (w1 := [(ao, .inr (2, [.ref aod, .int vos])), (aod, .inl (cy, 8, .inl fod)), (axn, .inr (2, [.ref axnd, .int r11.1])), (axnd, .inl (cy, 8, .inl r11.2.1))]) (ws' := [(ax, .inr (0, [.ref axn, .ref axg, .ref axc])), (axn, .inr (2, [.ref axnd, .int r11.1])), (axnd, .inl (cy, 8, .inl r11.2.1)), (axg, .inr (2, [.ref axgd, .int r11.2.2.1])), (axgd, .inl (cy, 8, .inl r11.2.2.2)), (axc, .inl (cy, 36, .inl fxc)), (ao, .inr (2, [.ref aod, .int vos])), (aod, .inl (cy, 8, .inl fod))]) hP hD [6, 7, 1, 2] [0, 3, 4, 5] rfl rfl (by decide) (by decide) hk1 hFc hB ht [0, 6, 7, 1, 2, 3, 4, 5] rfl (by decide) rfl
        replace hw := hw.symm
        subst hw
        clear hFc hB hk1 hz1 hvm
        have h0 := Option.some.inj h
        subst h0
        exact W.iret hx hb hr (fun t ht hW => ⟨⟨_, (), rfl, rfl, QW_mk hP hK hD ht hW⟩, hS.F ht⟩) hS.2.2 dX0_seek_72
