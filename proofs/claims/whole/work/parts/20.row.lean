noncomputable def fX2_clear_L7 (n : Nat) (l2 : Int32) (fxd : Nat → Int32) : Option (Int32 × (Nat → Int32)) := match n with
  | 0 => none
  | n + 1 => if (8 : Int32) ≤ l2 then (some (l2, fxd)) else (gin l2 8 (fX2_clear_L7 n (l2 + (1 : Int32)) (upd fxd l2.toNatClampNeg (0 : Int32))))
theorem fX2_clear_L7_0 (l2 : Int32) (fxd : Nat → Int32) : fX2_clear_L7 0 l2 fxd = none := rfl
theorem fX2_clear_L7_s (n : Nat) (l2 : Int32) (fxd : Nat → Int32) : fX2_clear_L7 (n + 1) l2 fxd = if (8 : Int32) ≤ l2 then (some (l2, fxd)) else (gin l2 8 (fX2_clear_L7 n (l2 + (1 : Int32)) (upd fxd l2.toNatClampNeg (0 : Int32)))) := rfl
noncomputable def fX2_clear (vxs : Int32) (fxd : Nat → Int32) (p0 : Int32) : Option (Int32 × (Nat → Int32)) := bd (fX2_clear_L7 FU (0 : Int32) fxd) fun q3 => some (p0, q3.2)
set_option maxHeartbeats 4000000 in
set_option maxRecDepth 100000 in
theorem c_X2_clear (l : Launch) (dC : Nat → ClassId) (dI : Nat → Nat → Nat) (cy : ClassId) (ax axd : Nat) (sz : Nat) (vxs : Int32) (fxd : Nat → Int32) (p0 : Int32) (res : Int32 × (Nat → Int32)) (h : fX2_clear vxs fxd p0 = some res) : Met l yX2_clear wsX2_clear ({ frames := 0, cells := 0, slots := 0, locals := 0 }) (va_Pc [.ref ax, .int p0] (PW (dC, dI) cy sz [(ax, .inr (2, [.ref axd, .int vxs])), (axd, .inl (cy, 8, .inl fxd))])) (va_Qv (fun (_ : Unit) => True) (QW (dC, dI) cy (va_A [(ax, .inr (2, [.ref axd, .int vxs])), (axd, .inl (cy, 8, .inl fxd))] sz) [(ax, .inr (2, [.ref axd, .int res.1])), (axd, .inl (cy, 8, .inl res.2))]) (va_A [(ax, .inr (2, [.ref axd, .int vxs])), (axd, .inl (cy, 8, .inl fxd))] sz)) 0 0 (va_A [(ax, .inr (2, [.ref axd, .int vxs])), (axd, .inl (cy, 8, .inl fxd))] sz) := by
  refine Met.ofW (cc := cX2_clear) (maxL := 3) (ret := none) (by decide) rfl ?_
  intro p e s m args below meth c s₁ B hml hv
  obtain ⟨rfl, hsz, hP, hK, hD0, hN⟩ := hv
  have hx := B.exec
  have hb := B.bytes
  have hr := B.returns
  have hts := atoms_spec (ws := wsX2_clear) B.pre
  have hown : s.vm.findClass RX2 = some m.cls := findClass_of_methodNamed B.named
  have hlocks := B.notSynchronized
  subst hsz
  have hD := hD0.self (sz := s.heap.size)
  clear hD0
  generalize hAe : va_A [(ax, .inr (2, [.ref axd, .int vxs])), (axd, .inl (cy, 8, .inl fxd))] s.heap.size = A at hD ⊢
  have hA : ∀ q : Nat, s.heap.size ≤ q → A q := fun q h => by rw [← hAe]; exact Or.inr h
  have hS : va_S A s.heap s.heap [] := va_S.rf
  have hl := lv_entry ([.ref ax, .int p0]) (n := 3) (Nat.le_of_ble_eq_true rfl)
  rw [lg_entry_eq]
  generalize (lg_sl ([.ref ax, .int p0]) ++ List.replicate (3 - (lg_sl ([.ref ax, .int p0])).length) Slot.unset).toArray = ls at hl ⊢
  replace hl : lv_has ls 3 [(0, .ref ax), (1, .int p0)] := hl
  replace hP : va_P (dC, dI) vwCl [(ax, .inr (2, [.ref axd, .int vxs])), (axd, .inl (cy, 8, .inl fxd))] s.heap := hP
  obtain ⟨locs, hlocs⟩ : ∃ lc : List Loc, lc = [] := ⟨_, rfl⟩
  rw [← hlocs] at hS ⊢
  obtain ⟨H, hH⟩ : ∃ H : Heap, H = s.heap := ⟨_, rfl⟩
  have hP2 := hP; rw [← hH] at hP2
  have hS2 : va_S A s.heap H locs := by rw [hH]; exact hS
  suffices hgo : W p l e (headSpec wsX2_clear ({ frames := 0, cells := 0, slots := 0, locals := 0 })).room s m (([.ref ax, .int p0] : List Value).toArray) below meth c H locs 0 0 (MQ below (va_Qv (fun (_ : Unit) => True) (QW (dC, dI) cy A [(ax, .inr (2, [.ref axd, .int res.1])), (axd, .inl (cy, 8, .inl res.2))]) A) (([.ref ax, .int p0] : List Value).toArray) s 0 0 A) (F0 m 0 ls []) by rw [hH] at hgo; exact hgo
  replace hP := hP2
  replace hS := hS2
  clear hP2 hS2
  have hin_X2 : ∀ w ∈ wsX20, w ∈ wsX2_clear := by decide +kernel
  have hf_9 := hts (.fieldLink RX2 9 "FewLooks$Row" "digits" "[I") (by decide +kernel)
  have hf_15 := hts (.fieldLink RX2 15 "FewLooks$Row" "size" "I") (by decide +kernel)
  unfold fX2_clear at h
  refine lv_aload_n hx hb dX2_clear_0 rfl (lv_at hl 0 rfl) ?_
  refine lv_iload_n hx hb dX2_clear_1 rfl (lv_at hl 1 rfl) ?_
  refine va_put (D := (dC, dI)) (ci := 2) (v := .int p0) (ty := .int) (C := RX2) (T := TX2) (N := 2) hx hb hts hin_X2 tyX2 tyX2_ok nmX2 hown hK hP hD hS 0 rfl rfl 1 (by decide) (hf_15) (fun _ h9 => h9) rfl (by decide +kernel) rfl rfl (Nat.le_of_ble_eq_true rfl) dX2_clear_2 (fun H locs hP hD hS => ?_)
  replace hP : va_P (dC, dI) vwCl [(ax, .inr (2, [.ref axd, .int p0])), (axd, .inl (cy, 8, .inl fxd))] H := hP
  replace hD : va_D A [(ax, .inr (2, [.ref axd, .int p0])), (axd, .inl (cy, 8, .inl fxd))] := hD
  refine lv_iconst (v := (0 : Int32)) hx hb dX2_clear_5 (by decide) ?_
  refine lv_istore_n (lv' := [(2, .int (0 : Int32)), (0, .ref ax), (1, .int p0)]) hx hb dX2_clear_6 rfl hl (by decide) rfl (fun ls hl => ?_)
  have L7_1 : ∀ (n : Nat) (l1 : Int32) (l2 : Int32) (vxs : Int32) (fxd : Nat → Int32) (rs : (Int32 × (Nat → Int32))) (H : Heap) (locs : List Loc) (ls : Array Slot), fX2_clear_L7 n l2 fxd = some rs → lv_has ls 3 [(0, .ref ax), (1, .int l1), (2, .int l2)] → va_P (dC, dI) vwCl [(ax, .inr (2, [.ref axd, .int vxs])), (axd, .inl (cy, 8, .inl fxd))] H → va_D A [(ax, .inr (2, [.ref axd, .int vxs])), (axd, .inl (cy, 8, .inl fxd))] → va_S A s.heap H locs → (∀ (H : Heap) (locs : List Loc) (ls : Array Slot), lv_has ls 3 [(0, .ref ax), (1, .int l1), (2, .int rs.1)] → va_P (dC, dI) vwCl [(ax, .inr (2, [.ref axd, .int vxs])), (axd, .inl (cy, 8, .inl rs.2))] H → va_D A [(ax, .inr (2, [.ref axd, .int vxs])), (axd, .inl (cy, 8, .inl rs.2))] → va_S A s.heap H locs → W p l e (headSpec wsX2_clear ({ frames := 0, cells := 0, slots := 0, locals := 0 })).room s m (([.ref ax, .int p0] : List Value).toArray) below meth c H locs 0 0 (MQ below (va_Qv (fun (_ : Unit) => True) (QW (dC, dI) cy A [(ax, .inr (2, [.ref axd, .int res.1])), (axd, .inl (cy, 8, .inl res.2))]) A) (([.ref ax, .int p0] : List Value).toArray) s 0 0 A) (F0 m 26 ls [])) → W p l e (headSpec wsX2_clear ({ frames := 0, cells := 0, slots := 0, locals := 0 })).room s m (([.ref ax, .int p0] : List Value).toArray) below meth c H locs 0 0 (MQ below (va_Qv (fun (_ : Unit) => True) (QW (dC, dI) cy A [(ax, .inr (2, [.ref axd, .int res.1])), (axd, .inl (cy, 8, .inl res.2))]) A) (([.ref ax, .int p0] : List Value).toArray) s 0 0 A) (F0 m 7 ls []) := by
    intro n
    induction n with
    | zero =>
      intro l1 l2 vxs fxd rs H locs ls h
      rw [fX2_clear_L7_0] at h
      cases h
    | succ n ih =>
      intro l1 l2 vxs fxd rs H locs ls h hl hP hD hS K
      rw [fX2_clear_L7_s] at h
      refine lv_iload_n hx hb dX2_clear_7 rfl (lv_at hl 2 rfl) ?_
      refine lv_bipush (v := (8 : Int32)) hx hb dX2_clear_8 (by decide) ?_
      refine lv_icmp_ge (tgt := 26) hx hb dX2_clear_10 (by decide) (fun c1 => ?_) (fun c1 => ?_)
      · rw [if_pos c1] at h
        have h0 := Option.some.inj h
        subst h0
        exact K H locs ls (lv_sub hl [0, 1, 2] rfl) hP hD hS
      · rw [if_neg c1] at h
        refine lv_aload_n hx hb dX2_clear_13 rfl (lv_at hl 0 rfl) ?_
        refine va_get (D := (dC, dI)) (ci := 2) (v := .ref axd) (C := RX2) (T := TX2) (N := 2) hx hb hts hin_X2 hown hK hP 0 rfl rfl 0 (by decide) (hf_9) (fun _ h9 => h9) rfl dX2_clear_14 ?_
        refine lv_iload_n hx hb dX2_clear_17 rfl (lv_at hl 2 rfl) ?_
        refine lv_iconst (v := (0 : Int32)) hx hb dX2_clear_18 (by decide) ?_
        obtain ⟨hi, h⟩ := gin_some h
        refine va_iast hx hb hK hP hD hS 1 0 rfl rfl hi dX2_clear_19 (fun H locs hP hD hS => ?_)
        replace hP : va_P (dC, dI) vwCl [(ax, .inr (2, [.ref axd, .int vxs])), (axd, .inl (cy, 8, .inl (upd fxd l2.toNatClampNeg (0 : Int32))))] H := hP
        replace hD : va_D A [(ax, .inr (2, [.ref axd, .int vxs])), (axd, .inl (cy, 8, .inl (upd fxd l2.toNatClampNeg (0 : Int32))))] := hD
        refine lv_iinc (v := l2 + (1 : Int32)) (lv' := [(2, .int (l2 + (1 : Int32))), (0, .ref ax), (1, .int l1)]) hx hb dX2_clear_20 hl (k := 2) rfl rfl (by decide) rfl (fun ls hl => ?_)
        refine lv_goto (tgt := 7) hx hb dX2_clear_23 (by decide) ?_
        exact ih l1 (l2 + (1 : Int32)) vxs (upd fxd l2.toNatClampNeg (0 : Int32)) rs H locs ls h (lv_sub hl [1, 2, 0] rfl) hP hD hS K
  obtain ⟨q3, hq3, h⟩ := bd_some h
  refine L7_1 FU p0 (0 : Int32) p0 fxd q3 H locs ls hq3 (lv_sub hl [1, 2, 0] rfl) hP hD hS (fun H locs ls hl hP hD hS => ?_)
  have h0 := Option.some.inj h
  subst h0
  exact W.vret hx hb hr (fun t ht hW => ⟨⟨(), rfl, trivial, QW_mk hP hK hD ht hW⟩, hS.F ht⟩) hS.2.2 dX2_clear_26

noncomputable def fX2_become_L10 (n : Nat) (l2 : Int32) (fxd : Nat → Int32) (fod : Nat → Int32) : Option (Int32 × (Nat → Int32)) := match n with
  | 0 => none
  | n + 1 => if (8 : Int32) ≤ l2 then (some (l2, fxd)) else (gin l2 8 (gin l2 8 (fX2_become_L10 n (l2 + (1 : Int32)) (upd fxd l2.toNatClampNeg (fod l2.toNatClampNeg)) fod)))
theorem fX2_become_L10_0 (l2 : Int32) (fxd : Nat → Int32) (fod : Nat → Int32) : fX2_become_L10 0 l2 fxd fod = none := rfl
theorem fX2_become_L10_s (n : Nat) (l2 : Int32) (fxd : Nat → Int32) (fod : Nat → Int32) : fX2_become_L10 (n + 1) l2 fxd fod = if (8 : Int32) ≤ l2 then (some (l2, fxd)) else (gin l2 8 (gin l2 8 (fX2_become_L10 n (l2 + (1 : Int32)) (upd fxd l2.toNatClampNeg (fod l2.toNatClampNeg)) fod))) := rfl
noncomputable def fX2_become (vxs : Int32) (fxd : Nat → Int32) (vos : Int32) (fod : Nat → Int32)  : Option (Int32 × (Nat → Int32)) := bd (fX2_become_L10 FU (0 : Int32) fxd fod) fun q3 => some (vos, q3.2)
set_option maxHeartbeats 4000000 in
set_option maxRecDepth 100000 in
theorem c_X2_become (l : Launch) (dC : Nat → ClassId) (dI : Nat → Nat → Nat) (cy : ClassId) (ax axd ao aod : Nat) (sz : Nat) (vxs : Int32) (fxd : Nat → Int32) (vos : Int32) (fod : Nat → Int32)  (res : Int32 × (Nat → Int32)) (h : fX2_become vxs fxd vos fod = some res) : Met l yX2_become wsX2_become ({ frames := 0, cells := 0, slots := 0, locals := 0 }) (va_Pc [.ref ax, .ref ao] (PW (dC, dI) cy sz [(ax, .inr (2, [.ref axd, .int vxs])), (axd, .inl (cy, 8, .inl fxd)), (ao, .inr (2, [.ref aod, .int vos])), (aod, .inl (cy, 8, .inl fod))])) (va_Qv (fun (_ : Unit) => True) (QW (dC, dI) cy (va_A [(ax, .inr (2, [.ref axd, .int vxs])), (axd, .inl (cy, 8, .inl fxd)), (ao, .inr (2, [.ref aod, .int vos])), (aod, .inl (cy, 8, .inl fod))] sz) [(ax, .inr (2, [.ref axd, .int res.1])), (axd, .inl (cy, 8, .inl res.2)), (ao, .inr (2, [.ref aod, .int vos])), (aod, .inl (cy, 8, .inl fod))]) (va_A [(ax, .inr (2, [.ref axd, .int vxs])), (axd, .inl (cy, 8, .inl fxd)), (ao, .inr (2, [.ref aod, .int vos])), (aod, .inl (cy, 8, .inl fod))] sz)) 0 0 (va_A [(ax, .inr (2, [.ref axd, .int vxs])), (axd, .inl (cy, 8, .inl fxd)), (ao, .inr (2, [.ref aod, .int vos])), (aod, .inl (cy, 8, .inl fod))] sz) := by
  refine Met.ofW (cc := cX2_become) (maxL := 3) (ret := none) (by decide) rfl ?_
  intro p e s m args below meth c s₁ B hml hv
  obtain ⟨rfl, hsz, hP, hK, hD0, hN⟩ := hv
  have hx := B.exec
  have hb := B.bytes
  have hr := B.returns
  have hts := atoms_spec (ws := wsX2_become) B.pre
  have hown : s.vm.findClass RX2 = some m.cls := findClass_of_methodNamed B.named
  have hlocks := B.notSynchronized
  subst hsz
  have hD := hD0.self (sz := s.heap.size)
  clear hD0
  generalize hAe : va_A [(ax, .inr (2, [.ref axd, .int vxs])), (axd, .inl (cy, 8, .inl fxd)), (ao, .inr (2, [.ref aod, .int vos])), (aod, .inl (cy, 8, .inl fod))] s.heap.size = A at hD ⊢
  have hA : ∀ q : Nat, s.heap.size ≤ q → A q := fun q h => by rw [← hAe]; exact Or.inr h
  have hS : va_S A s.heap s.heap [] := va_S.rf
  have hl := lv_entry ([.ref ax, .ref ao]) (n := 3) (Nat.le_of_ble_eq_true rfl)
  rw [lg_entry_eq]
  generalize (lg_sl ([.ref ax, .ref ao]) ++ List.replicate (3 - (lg_sl ([.ref ax, .ref ao])).length) Slot.unset).toArray = ls at hl ⊢
  replace hl : lv_has ls 3 [(0, .ref ax), (1, .ref ao)] := hl
  replace hP : va_P (dC, dI) vwCl [(ax, .inr (2, [.ref axd, .int vxs])), (axd, .inl (cy, 8, .inl fxd)), (ao, .inr (2, [.ref aod, .int vos])), (aod, .inl (cy, 8, .inl fod))] s.heap := hP
  obtain ⟨locs, hlocs⟩ : ∃ lc : List Loc, lc = [] := ⟨_, rfl⟩
  rw [← hlocs] at hS ⊢
  obtain ⟨H, hH⟩ : ∃ H : Heap, H = s.heap := ⟨_, rfl⟩
  have hP2 := hP; rw [← hH] at hP2
  have hS2 : va_S A s.heap H locs := by rw [hH]; exact hS
  suffices hgo : W p l e (headSpec wsX2_become ({ frames := 0, cells := 0, slots := 0, locals := 0 })).room s m (([.ref ax, .ref ao] : List Value).toArray) below meth c H locs 0 0 (MQ below (va_Qv (fun (_ : Unit) => True) (QW (dC, dI) cy A [(ax, .inr (2, [.ref axd, .int res.1])), (axd, .inl (cy, 8, .inl res.2)), (ao, .inr (2, [.ref aod, .int vos])), (aod, .inl (cy, 8, .inl fod))]) A) (([.ref ax, .ref ao] : List Value).toArray) s 0 0 A) (F0 m 0 ls []) by rw [hH] at hgo; exact hgo
  replace hP := hP2
  replace hS := hS2
  clear hP2 hS2
  have hin_X2 : ∀ w ∈ wsX20, w ∈ wsX2_become := by decide +kernel
  have hf_9 := hts (.fieldLink RX2 9 "FewLooks$Row" "digits" "[I") (by decide +kernel)
  have hf_15 := hts (.fieldLink RX2 15 "FewLooks$Row" "size" "I") (by decide +kernel)
  unfold fX2_become at h
  refine lv_aload_n hx hb dX2_become_0 rfl (lv_at hl 0 rfl) ?_
  refine lv_aload_n hx hb dX2_become_1 rfl (lv_at hl 1 rfl) ?_
  refine va_get (D := (dC, dI)) (ci := 2) (v := .int vos) (C := RX2) (T := TX2) (N := 2) hx hb hts hin_X2 hown hK hP 2 rfl rfl 1 (by decide) (hf_15) (fun _ h9 => h9) rfl dX2_become_2 ?_
  refine va_put (D := (dC, dI)) (ci := 2) (v := .int vos) (ty := .int) (C := RX2) (T := TX2) (N := 2) hx hb hts hin_X2 tyX2 tyX2_ok nmX2 hown hK hP hD hS 0 rfl rfl 1 (by decide) (hf_15) (fun _ h9 => h9) rfl (by decide +kernel) rfl rfl (Nat.le_of_ble_eq_true rfl) dX2_become_5 (fun H locs hP hD hS => ?_)
  replace hP : va_P (dC, dI) vwCl [(ax, .inr (2, [.ref axd, .int vos])), (axd, .inl (cy, 8, .inl fxd)), (ao, .inr (2, [.ref aod, .int vos])), (aod, .inl (cy, 8, .inl fod))] H := hP
  replace hD : va_D A [(ax, .inr (2, [.ref axd, .int vos])), (axd, .inl (cy, 8, .inl fxd)), (ao, .inr (2, [.ref aod, .int vos])), (aod, .inl (cy, 8, .inl fod))] := hD
  refine lv_iconst (v := (0 : Int32)) hx hb dX2_become_8 (by decide) ?_
  refine lv_istore_n (lv' := [(2, .int (0 : Int32)), (0, .ref ax), (1, .ref ao)]) hx hb dX2_become_9 rfl hl (by decide) rfl (fun ls hl => ?_)
  have L10_1 : ∀ (n : Nat) (l2 : Int32) (vxs : Int32) (fxd : Nat → Int32) (rs : (Int32 × (Nat → Int32))) (H : Heap) (locs : List Loc) (ls : Array Slot), fX2_become_L10 n l2 fxd fod = some rs → lv_has ls 3 [(0, .ref ax), (1, .ref ao), (2, .int l2)] → va_P (dC, dI) vwCl [(ax, .inr (2, [.ref axd, .int vxs])), (axd, .inl (cy, 8, .inl fxd)), (ao, .inr (2, [.ref aod, .int vos])), (aod, .inl (cy, 8, .inl fod))] H → va_D A [(ax, .inr (2, [.ref axd, .int vxs])), (axd, .inl (cy, 8, .inl fxd)), (ao, .inr (2, [.ref aod, .int vos])), (aod, .inl (cy, 8, .inl fod))] → va_S A s.heap H locs → (∀ (H : Heap) (locs : List Loc) (ls : Array Slot), lv_has ls 3 [(0, .ref ax), (1, .ref ao), (2, .int rs.1)] → va_P (dC, dI) vwCl [(ax, .inr (2, [.ref axd, .int vxs])), (axd, .inl (cy, 8, .inl rs.2)), (ao, .inr (2, [.ref aod, .int vos])), (aod, .inl (cy, 8, .inl fod))] H → va_D A [(ax, .inr (2, [.ref axd, .int vxs])), (axd, .inl (cy, 8, .inl rs.2)), (ao, .inr (2, [.ref aod, .int vos])), (aod, .inl (cy, 8, .inl fod))] → va_S A s.heap H locs → W p l e (headSpec wsX2_become ({ frames := 0, cells := 0, slots := 0, locals := 0 })).room s m (([.ref ax, .ref ao] : List Value).toArray) below meth c H locs 0 0 (MQ below (va_Qv (fun (_ : Unit) => True) (QW (dC, dI) cy A [(ax, .inr (2, [.ref axd, .int res.1])), (axd, .inl (cy, 8, .inl res.2)), (ao, .inr (2, [.ref aod, .int vos])), (aod, .inl (cy, 8, .inl fod))]) A) (([.ref ax, .ref ao] : List Value).toArray) s 0 0 A) (F0 m 34 ls [])) → W p l e (headSpec wsX2_become ({ frames := 0, cells := 0, slots := 0, locals := 0 })).room s m (([.ref ax, .ref ao] : List Value).toArray) below meth c H locs 0 0 (MQ below (va_Qv (fun (_ : Unit) => True) (QW (dC, dI) cy A [(ax, .inr (2, [.ref axd, .int res.1])), (axd, .inl (cy, 8, .inl res.2)), (ao, .inr (2, [.ref aod, .int vos])), (aod, .inl (cy, 8, .inl fod))]) A) (([.ref ax, .ref ao] : List Value).toArray) s 0 0 A) (F0 m 10 ls []) := by
    intro n
    induction n with
    | zero =>
      intro l2 vxs fxd rs H locs ls h
      rw [fX2_become_L10_0] at h
      cases h
    | succ n ih =>
      intro l2 vxs fxd rs H locs ls h hl hP hD hS K
      rw [fX2_become_L10_s] at h
      refine lv_iload_n hx hb dX2_become_10 rfl (lv_at hl 2 rfl) ?_
      refine lv_bipush (v := (8 : Int32)) hx hb dX2_become_11 (by decide) ?_
      refine lv_icmp_ge (tgt := 34) hx hb dX2_become_13 (by decide) (fun c1 => ?_) (fun c1 => ?_)
      · rw [if_pos c1] at h
        have h0 := Option.some.inj h
        subst h0
        exact K H locs ls (lv_sub hl [0, 1, 2] rfl) hP hD hS
      · rw [if_neg c1] at h
        refine lv_aload_n hx hb dX2_become_16 rfl (lv_at hl 0 rfl) ?_
        refine va_get (D := (dC, dI)) (ci := 2) (v := .ref axd) (C := RX2) (T := TX2) (N := 2) hx hb hts hin_X2 hown hK hP 0 rfl rfl 0 (by decide) (hf_9) (fun _ h9 => h9) rfl dX2_become_17 ?_
        refine lv_iload_n hx hb dX2_become_20 rfl (lv_at hl 2 rfl) ?_
        refine lv_aload_n hx hb dX2_become_21 rfl (lv_at hl 1 rfl) ?_
        refine va_get (D := (dC, dI)) (ci := 2) (v := .ref aod) (C := RX2) (T := TX2) (N := 2) hx hb hts hin_X2 hown hK hP 2 rfl rfl 0 (by decide) (hf_9) (fun _ h9 => h9) rfl dX2_become_22 ?_
        refine lv_iload_n hx hb dX2_become_25 rfl (lv_at hl 2 rfl) ?_
        obtain ⟨hi, h⟩ := gin_some h
        refine va_iald hx hb hK hP 3 0 rfl rfl hi dX2_become_26 ?_
        obtain ⟨hi, h⟩ := gin_some h
        refine va_iast hx hb hK hP hD hS 1 0 rfl rfl hi dX2_become_27 (fun H locs hP hD hS => ?_)
        replace hP : va_P (dC, dI) vwCl [(ax, .inr (2, [.ref axd, .int vxs])), (axd, .inl (cy, 8, .inl (upd fxd l2.toNatClampNeg (fod l2.toNatClampNeg)))), (ao, .inr (2, [.ref aod, .int vos])), (aod, .inl (cy, 8, .inl fod))] H := hP
        replace hD : va_D A [(ax, .inr (2, [.ref axd, .int vxs])), (axd, .inl (cy, 8, .inl (upd fxd l2.toNatClampNeg (fod l2.toNatClampNeg)))), (ao, .inr (2, [.ref aod, .int vos])), (aod, .inl (cy, 8, .inl fod))] := hD
        refine lv_iinc (v := l2 + (1 : Int32)) (lv' := [(2, .int (l2 + (1 : Int32))), (0, .ref ax), (1, .ref ao)]) hx hb dX2_become_28 hl (k := 2) rfl rfl (by decide) rfl (fun ls hl => ?_)
        refine lv_goto (tgt := 10) hx hb dX2_become_31 (by decide) ?_
        exact ih (l2 + (1 : Int32)) vxs (upd fxd l2.toNatClampNeg (fod l2.toNatClampNeg)) rs H locs ls h (lv_sub hl [1, 2, 0] rfl) hP hD hS K
  obtain ⟨q3, hq3, h⟩ := bd_some h
  refine L10_1 FU (0 : Int32) vos fxd q3 H locs ls hq3 (lv_sub hl [1, 2, 0] rfl) hP hD hS (fun H locs ls hl hP hD hS => ?_)
  have h0 := Option.some.inj h
  subst h0
  exact W.vret hx hb hr (fun t ht hW => ⟨⟨(), rfl, trivial, QW_mk hP hK hD ht hW⟩, hS.F ht⟩) hS.2.2 dX2_become_34

noncomputable def fX2_spell_L7 (n : Nat) (l1 : Int32) (l3 : Int32) (vxs : Int32) (fxd : Nat → Int32) : Option (Int32 × (Nat → Int32)) := match n with
  | 0 => none
  | n + 1 => if vxs ≤ l3 then (some (l3, fxd)) else (gin l3 8 (fX2_spell_L7 n l1 (l3 + (1 : Int32)) vxs (upd fxd l3.toNatClampNeg ((l1 >>> (((vxs - (1 : Int32)) - l3) &&& 31)) &&& (1 : Int32)))))
theorem fX2_spell_L7_0 (l1 : Int32) (l3 : Int32) (vxs : Int32) (fxd : Nat → Int32) : fX2_spell_L7 0 l1 l3 vxs fxd = none := rfl
theorem fX2_spell_L7_s (n : Nat) (l1 : Int32) (l3 : Int32) (vxs : Int32) (fxd : Nat → Int32) : fX2_spell_L7 (n + 1) l1 l3 vxs fxd = if vxs ≤ l3 then (some (l3, fxd)) else (gin l3 8 (fX2_spell_L7 n l1 (l3 + (1 : Int32)) vxs (upd fxd l3.toNatClampNeg ((l1 >>> (((vxs - (1 : Int32)) - l3) &&& 31)) &&& (1 : Int32))))) := rfl
noncomputable def fX2_spell (vxs : Int32) (fxd : Nat → Int32) (p0 : Int32) (p1 : Int32) : Option (Int32 × (Nat → Int32)) := bd (fX2_spell_L7 FU p0 (0 : Int32) p1 fxd) fun q3 => some (p1, q3.2)
set_option maxHeartbeats 4000000 in
set_option maxRecDepth 100000 in
theorem c_X2_spell (l : Launch) (dC : Nat → ClassId) (dI : Nat → Nat → Nat) (cy : ClassId) (ax axd : Nat) (sz : Nat) (vxs : Int32) (fxd : Nat → Int32) (p0 : Int32) (p1 : Int32) (res : Int32 × (Nat → Int32)) (h : fX2_spell vxs fxd p0 p1 = some res) : Met l yX2_spell wsX2_spell ({ frames := 0, cells := 0, slots := 0, locals := 0 }) (va_Pc [.ref ax, .int p0, .int p1] (PW (dC, dI) cy sz [(ax, .inr (2, [.ref axd, .int vxs])), (axd, .inl (cy, 8, .inl fxd))])) (va_Qv (fun (_ : Unit) => True) (QW (dC, dI) cy (va_A [(ax, .inr (2, [.ref axd, .int vxs])), (axd, .inl (cy, 8, .inl fxd))] sz) [(ax, .inr (2, [.ref axd, .int res.1])), (axd, .inl (cy, 8, .inl res.2))]) (va_A [(ax, .inr (2, [.ref axd, .int vxs])), (axd, .inl (cy, 8, .inl fxd))] sz)) 0 0 (va_A [(ax, .inr (2, [.ref axd, .int vxs])), (axd, .inl (cy, 8, .inl fxd))] sz) := by
  refine Met.ofW (cc := cX2_spell) (maxL := 4) (ret := none) (by decide) rfl ?_
  intro p e s m args below meth c s₁ B hml hv
  obtain ⟨rfl, hsz, hP, hK, hD0, hN⟩ := hv
  have hx := B.exec
  have hb := B.bytes
  have hr := B.returns
  have hts := atoms_spec (ws := wsX2_spell) B.pre
  have hown : s.vm.findClass RX2 = some m.cls := findClass_of_methodNamed B.named
  have hlocks := B.notSynchronized
  subst hsz
  have hD := hD0.self (sz := s.heap.size)
  clear hD0
  generalize hAe : va_A [(ax, .inr (2, [.ref axd, .int vxs])), (axd, .inl (cy, 8, .inl fxd))] s.heap.size = A at hD ⊢
  have hA : ∀ q : Nat, s.heap.size ≤ q → A q := fun q h => by rw [← hAe]; exact Or.inr h
  have hS : va_S A s.heap s.heap [] := va_S.rf
  have hl := lv_entry ([.ref ax, .int p0, .int p1]) (n := 4) (Nat.le_of_ble_eq_true rfl)
  rw [lg_entry_eq]
  generalize (lg_sl ([.ref ax, .int p0, .int p1]) ++ List.replicate (4 - (lg_sl ([.ref ax, .int p0, .int p1])).length) Slot.unset).toArray = ls at hl ⊢
  replace hl : lv_has ls 4 [(0, .ref ax), (1, .int p0), (2, .int p1)] := hl
  replace hP : va_P (dC, dI) vwCl [(ax, .inr (2, [.ref axd, .int vxs])), (axd, .inl (cy, 8, .inl fxd))] s.heap := hP
  obtain ⟨locs, hlocs⟩ : ∃ lc : List Loc, lc = [] := ⟨_, rfl⟩
  rw [← hlocs] at hS ⊢
  obtain ⟨H, hH⟩ : ∃ H : Heap, H = s.heap := ⟨_, rfl⟩
  have hP2 := hP; rw [← hH] at hP2
  have hS2 : va_S A s.heap H locs := by rw [hH]; exact hS
  suffices hgo : W p l e (headSpec wsX2_spell ({ frames := 0, cells := 0, slots := 0, locals := 0 })).room s m (([.ref ax, .int p0, .int p1] : List Value).toArray) below meth c H locs 0 0 (MQ below (va_Qv (fun (_ : Unit) => True) (QW (dC, dI) cy A [(ax, .inr (2, [.ref axd, .int res.1])), (axd, .inl (cy, 8, .inl res.2))]) A) (([.ref ax, .int p0, .int p1] : List Value).toArray) s 0 0 A) (F0 m 0 ls []) by rw [hH] at hgo; exact hgo
  replace hP := hP2
  replace hS := hS2
  clear hP2 hS2
  have hin_X2 : ∀ w ∈ wsX20, w ∈ wsX2_spell := by decide +kernel
  have hf_9 := hts (.fieldLink RX2 9 "FewLooks$Row" "digits" "[I") (by decide +kernel)
  have hf_15 := hts (.fieldLink RX2 15 "FewLooks$Row" "size" "I") (by decide +kernel)
  unfold fX2_spell at h
  refine lv_aload_n hx hb dX2_spell_0 rfl (lv_at hl 0 rfl) ?_
  refine lv_iload_n hx hb dX2_spell_1 rfl (lv_at hl 2 rfl) ?_
  refine va_put (D := (dC, dI)) (ci := 2) (v := .int p1) (ty := .int) (C := RX2) (T := TX2) (N := 2) hx hb hts hin_X2 tyX2 tyX2_ok nmX2 hown hK hP hD hS 0 rfl rfl 1 (by decide) (hf_15) (fun _ h9 => h9) rfl (by decide +kernel) rfl rfl (Nat.le_of_ble_eq_true rfl) dX2_spell_2 (fun H locs hP hD hS => ?_)
  replace hP : va_P (dC, dI) vwCl [(ax, .inr (2, [.ref axd, .int p1])), (axd, .inl (cy, 8, .inl fxd))] H := hP
  replace hD : va_D A [(ax, .inr (2, [.ref axd, .int p1])), (axd, .inl (cy, 8, .inl fxd))] := hD
  refine lv_iconst (v := (0 : Int32)) hx hb dX2_spell_5 (by decide) ?_
  refine lv_istore_n (lv' := [(3, .int (0 : Int32)), (0, .ref ax), (1, .int p0), (2, .int p1)]) hx hb dX2_spell_6 rfl hl (by decide) rfl (fun ls hl => ?_)
  have L7_1 : ∀ (n : Nat) (l1 : Int32) (l2 : Int32) (l3 : Int32) (vxs : Int32) (fxd : Nat → Int32) (rs : (Int32 × (Nat → Int32))) (H : Heap) (locs : List Loc) (ls : Array Slot), fX2_spell_L7 n l1 l3 vxs fxd = some rs → lv_has ls 4 [(0, .ref ax), (1, .int l1), (2, .int l2), (3, .int l3)] → va_P (dC, dI) vwCl [(ax, .inr (2, [.ref axd, .int vxs])), (axd, .inl (cy, 8, .inl fxd))] H → va_D A [(ax, .inr (2, [.ref axd, .int vxs])), (axd, .inl (cy, 8, .inl fxd))] → va_S A s.heap H locs → (∀ (H : Heap) (locs : List Loc) (ls : Array Slot), lv_has ls 4 [(0, .ref ax), (1, .int l1), (2, .int l2), (3, .int rs.1)] → va_P (dC, dI) vwCl [(ax, .inr (2, [.ref axd, .int vxs])), (axd, .inl (cy, 8, .inl rs.2))] H → va_D A [(ax, .inr (2, [.ref axd, .int vxs])), (axd, .inl (cy, 8, .inl rs.2))] → va_S A s.heap H locs → W p l e (headSpec wsX2_spell ({ frames := 0, cells := 0, slots := 0, locals := 0 })).room s m (([.ref ax, .int p0, .int p1] : List Value).toArray) below meth c H locs 0 0 (MQ below (va_Qv (fun (_ : Unit) => True) (QW (dC, dI) cy A [(ax, .inr (2, [.ref axd, .int res.1])), (axd, .inl (cy, 8, .inl res.2))]) A) (([.ref ax, .int p0, .int p1] : List Value).toArray) s 0 0 A) (F0 m 39 ls [])) → W p l e (headSpec wsX2_spell ({ frames := 0, cells := 0, slots := 0, locals := 0 })).room s m (([.ref ax, .int p0, .int p1] : List Value).toArray) below meth c H locs 0 0 (MQ below (va_Qv (fun (_ : Unit) => True) (QW (dC, dI) cy A [(ax, .inr (2, [.ref axd, .int res.1])), (axd, .inl (cy, 8, .inl res.2))]) A) (([.ref ax, .int p0, .int p1] : List Value).toArray) s 0 0 A) (F0 m 7 ls []) := by
    intro n
    induction n with
    | zero =>
      intro l1 l2 l3 vxs fxd rs H locs ls h
      rw [fX2_spell_L7_0] at h
      cases h
    | succ n ih =>
      intro l1 l2 l3 vxs fxd rs H locs ls h hl hP hD hS K
      rw [fX2_spell_L7_s] at h
      refine lv_iload_n hx hb dX2_spell_7 rfl (lv_at hl 3 rfl) ?_
      refine lv_aload_n hx hb dX2_spell_8 rfl (lv_at hl 0 rfl) ?_
      refine va_get (D := (dC, dI)) (ci := 2) (v := .int vxs) (C := RX2) (T := TX2) (N := 2) hx hb hts hin_X2 hown hK hP 0 rfl rfl 1 (by decide) (hf_15) (fun _ h9 => h9) rfl dX2_spell_9 ?_
      refine lv_icmp_ge (tgt := 39) hx hb dX2_spell_12 (by decide) (fun c1 => ?_) (fun c1 => ?_)
      · rw [if_pos c1] at h
        have h0 := Option.some.inj h
        subst h0
        exact K H locs ls (lv_sub hl [0, 1, 2, 3] rfl) hP hD hS
      · rw [if_neg c1] at h
        refine lv_aload_n hx hb dX2_spell_15 rfl (lv_at hl 0 rfl) ?_
        refine va_get (D := (dC, dI)) (ci := 2) (v := .ref axd) (C := RX2) (T := TX2) (N := 2) hx hb hts hin_X2 hown hK hP 0 rfl rfl 0 (by decide) (hf_9) (fun _ h9 => h9) rfl dX2_spell_16 ?_
        refine lv_iload_n hx hb dX2_spell_19 rfl (lv_at hl 3 rfl) ?_
        refine lv_iload_n hx hb dX2_spell_20 rfl (lv_at hl 1 rfl) ?_
        refine lv_aload_n hx hb dX2_spell_21 rfl (lv_at hl 0 rfl) ?_
        refine va_get (D := (dC, dI)) (ci := 2) (v := .int vxs) (C := RX2) (T := TX2) (N := 2) hx hb hts hin_X2 hown hK hP 0 rfl rfl 1 (by decide) (hf_15) (fun _ h9 => h9) rfl dX2_spell_22 ?_
        refine lv_iconst (v := (1 : Int32)) hx hb dX2_spell_25 (by decide) ?_
        refine lv_isub hx hb dX2_spell_26 ?_
        refine lv_iload_n hx hb dX2_spell_27 rfl (lv_at hl 3 rfl) ?_
        refine lv_isub hx hb dX2_spell_28 ?_
        refine lv_ishr hx hb dX2_spell_29 ?_
        refine lv_iconst (v := (1 : Int32)) hx hb dX2_spell_30 (by decide) ?_
        refine lv_iand hx hb dX2_spell_31 ?_
        obtain ⟨hi, h⟩ := gin_some h
        refine va_iast hx hb hK hP hD hS 1 0 rfl rfl hi dX2_spell_32 (fun H locs hP hD hS => ?_)
        replace hP : va_P (dC, dI) vwCl [(ax, .inr (2, [.ref axd, .int vxs])), (axd, .inl (cy, 8, .inl (upd fxd l3.toNatClampNeg ((l1 >>> (((vxs - (1 : Int32)) - l3) &&& 31)) &&& (1 : Int32)))))] H := hP
        replace hD : va_D A [(ax, .inr (2, [.ref axd, .int vxs])), (axd, .inl (cy, 8, .inl (upd fxd l3.toNatClampNeg ((l1 >>> (((vxs - (1 : Int32)) - l3) &&& 31)) &&& (1 : Int32)))))] := hD
        refine lv_iinc (v := l3 + (1 : Int32)) (lv' := [(3, .int (l3 + (1 : Int32))), (0, .ref ax), (1, .int l1), (2, .int l2)]) hx hb dX2_spell_33 hl (k := 3) rfl rfl (by decide) rfl (fun ls hl => ?_)
        refine lv_goto (tgt := 7) hx hb dX2_spell_36 (by decide) ?_
        exact ih l1 l2 (l3 + (1 : Int32)) vxs (upd fxd l3.toNatClampNeg ((l1 >>> (((vxs - (1 : Int32)) - l3) &&& 31)) &&& (1 : Int32))) rs H locs ls h (lv_sub hl [1, 2, 3, 0] rfl) hP hD hS K
  obtain ⟨q3, hq3, h⟩ := bd_some h
  refine L7_1 FU p0 p1 (0 : Int32) p1 fxd q3 H locs ls hq3 (lv_sub hl [1, 2, 3, 0] rfl) hP hD hS (fun H locs ls hl hP hD hS => ?_)
  have h0 := Option.some.inj h
  subst h0
  exact W.vret hx hb hr (fun t ht hW => ⟨⟨(), rfl, trivial, QW_mk hP hK hD ht hW⟩, hS.F ht⟩) hS.2.2 dX2_spell_39

noncomputable def fX2_total_L4 (n : Nat) (l1 : Int32) (l2 : Int32) (vxs : Int32) (fxd : Nat → Int32) : Option (Int32 × Int32) := match n with
  | 0 => none
  | n + 1 => if vxs ≤ l2 then (some (l1, l2)) else (gin l2 8 (fX2_total_L4 n (l1 + (fxd l2.toNatClampNeg)) (l2 + (1 : Int32)) vxs fxd))
theorem fX2_total_L4_0 (l1 : Int32) (l2 : Int32) (vxs : Int32) (fxd : Nat → Int32) : fX2_total_L4 0 l1 l2 vxs fxd = none := rfl
theorem fX2_total_L4_s (n : Nat) (l1 : Int32) (l2 : Int32) (vxs : Int32) (fxd : Nat → Int32) : fX2_total_L4 (n + 1) l1 l2 vxs fxd = if vxs ≤ l2 then (some (l1, l2)) else (gin l2 8 (fX2_total_L4 n (l1 + (fxd l2.toNatClampNeg)) (l2 + (1 : Int32)) vxs fxd)) := rfl
noncomputable def fX2_total (vxs : Int32) (fxd : Nat → Int32)  : Option (Int32) := bd (fX2_total_L4 FU (0 : Int32) (0 : Int32) vxs fxd) fun q3 => some q3.1
set_option maxHeartbeats 4000000 in
set_option maxRecDepth 100000 in
theorem c_X2_total (l : Launch) (dC : Nat → ClassId) (dI : Nat → Nat → Nat) (cy : ClassId) (ax axd : Nat) (sz : Nat) (vxs : Int32) (fxd : Nat → Int32)  (res : Int32) (h : fX2_total vxs fxd = some res) : Met l yX2_total wsX2_total ({ frames := 0, cells := 0, slots := 0, locals := 0 }) (va_Pc [.ref ax] (PW (dC, dI) cy sz [(ax, .inr (2, [.ref axd, .int vxs])), (axd, .inl (cy, 8, .inl fxd))])) (va_Qi (fun (r : Int32) (_ : Unit) => r = res) (QW (dC, dI) cy (va_A [(ax, .inr (2, [.ref axd, .int vxs])), (axd, .inl (cy, 8, .inl fxd))] sz) [(ax, .inr (2, [.ref axd, .int vxs])), (axd, .inl (cy, 8, .inl fxd))]) (va_A [(ax, .inr (2, [.ref axd, .int vxs])), (axd, .inl (cy, 8, .inl fxd))] sz)) 0 0 (va_A [(ax, .inr (2, [.ref axd, .int vxs])), (axd, .inl (cy, 8, .inl fxd))] sz) := by
  refine Met.ofW (cc := cX2_total) (maxL := 3) (ret := (some .int)) (by decide) rfl ?_
  intro p e s m args below meth c s₁ B hml hv
  obtain ⟨rfl, hsz, hP, hK, hD0, hN⟩ := hv
  have hx := B.exec
  have hb := B.bytes
  have hr := B.returns
  have hts := atoms_spec (ws := wsX2_total) B.pre
  have hown : s.vm.findClass RX2 = some m.cls := findClass_of_methodNamed B.named
  have hlocks := B.notSynchronized
  subst hsz
  have hD := hD0.self (sz := s.heap.size)
  clear hD0
  generalize hAe : va_A [(ax, .inr (2, [.ref axd, .int vxs])), (axd, .inl (cy, 8, .inl fxd))] s.heap.size = A at hD ⊢
  have hA : ∀ q : Nat, s.heap.size ≤ q → A q := fun q h => by rw [← hAe]; exact Or.inr h
  have hS : va_S A s.heap s.heap [] := va_S.rf
  have hl := lv_entry ([.ref ax]) (n := 3) (Nat.le_of_ble_eq_true rfl)
  rw [lg_entry_eq]
  generalize (lg_sl ([.ref ax]) ++ List.replicate (3 - (lg_sl ([.ref ax])).length) Slot.unset).toArray = ls at hl ⊢
  replace hl : lv_has ls 3 [(0, .ref ax)] := hl
  replace hP : va_P (dC, dI) vwCl [(ax, .inr (2, [.ref axd, .int vxs])), (axd, .inl (cy, 8, .inl fxd))] s.heap := hP
  obtain ⟨locs, hlocs⟩ : ∃ lc : List Loc, lc = [] := ⟨_, rfl⟩
  rw [← hlocs] at hS ⊢
  obtain ⟨H, hH⟩ : ∃ H : Heap, H = s.heap := ⟨_, rfl⟩
  have hP2 := hP; rw [← hH] at hP2
  have hS2 : va_S A s.heap H locs := by rw [hH]; exact hS
  suffices hgo : W p l e (headSpec wsX2_total ({ frames := 0, cells := 0, slots := 0, locals := 0 })).room s m (([.ref ax] : List Value).toArray) below meth c H locs 0 0 (MQ below (va_Qi (fun (r : Int32) (_ : Unit) => r = res) (QW (dC, dI) cy A [(ax, .inr (2, [.ref axd, .int vxs])), (axd, .inl (cy, 8, .inl fxd))]) A) (([.ref ax] : List Value).toArray) s 0 0 A) (F0 m 0 ls []) by rw [hH] at hgo; exact hgo
  replace hP := hP2
  replace hS := hS2
  clear hP2 hS2
  have hin_X2 : ∀ w ∈ wsX20, w ∈ wsX2_total := by decide +kernel
  have hf_9 := hts (.fieldLink RX2 9 "FewLooks$Row" "digits" "[I") (by decide +kernel)
  have hf_15 := hts (.fieldLink RX2 15 "FewLooks$Row" "size" "I") (by decide +kernel)
  unfold fX2_total at h
  refine lv_iconst (v := (0 : Int32)) hx hb dX2_total_0 (by decide) ?_
  refine lv_istore_n (lv' := [(1, .int (0 : Int32)), (0, .ref ax)]) hx hb dX2_total_1 rfl hl (by decide) rfl (fun ls hl => ?_)
  refine lv_iconst (v := (0 : Int32)) hx hb dX2_total_2 (by decide) ?_
  refine lv_istore_n (lv' := [(2, .int (0 : Int32)), (1, .int (0 : Int32)), (0, .ref ax)]) hx hb dX2_total_3 rfl hl (by decide) rfl (fun ls hl => ?_)
  have L4_1 : ∀ (n : Nat) (l1 : Int32) (l2 : Int32) (rs : (Int32 × Int32)) (H : Heap) (locs : List Loc) (ls : Array Slot), fX2_total_L4 n l1 l2 vxs fxd = some rs → lv_has ls 3 [(0, .ref ax), (1, .int l1), (2, .int l2)] → va_P (dC, dI) vwCl [(ax, .inr (2, [.ref axd, .int vxs])), (axd, .inl (cy, 8, .inl fxd))] H → va_D A [(ax, .inr (2, [.ref axd, .int vxs])), (axd, .inl (cy, 8, .inl fxd))] → va_S A s.heap H locs → (∀ (H : Heap) (locs : List Loc) (ls : Array Slot), lv_has ls 3 [(0, .ref ax), (1, .int rs.1), (2, .int rs.2)] → va_P (dC, dI) vwCl [(ax, .inr (2, [.ref axd, .int vxs])), (axd, .inl (cy, 8, .inl fxd))] H → va_D A [(ax, .inr (2, [.ref axd, .int vxs])), (axd, .inl (cy, 8, .inl fxd))] → va_S A s.heap H locs → W p l e (headSpec wsX2_total ({ frames := 0, cells := 0, slots := 0, locals := 0 })).room s m (([.ref ax] : List Value).toArray) below meth c H locs 0 0 (MQ below (va_Qi (fun (r : Int32) (_ : Unit) => r = res) (QW (dC, dI) cy A [(ax, .inr (2, [.ref axd, .int vxs])), (axd, .inl (cy, 8, .inl fxd))]) A) (([.ref ax] : List Value).toArray) s 0 0 A) (F0 m 27 ls [])) → W p l e (headSpec wsX2_total ({ frames := 0, cells := 0, slots := 0, locals := 0 })).room s m (([.ref ax] : List Value).toArray) below meth c H locs 0 0 (MQ below (va_Qi (fun (r : Int32) (_ : Unit) => r = res) (QW (dC, dI) cy A [(ax, .inr (2, [.ref axd, .int vxs])), (axd, .inl (cy, 8, .inl fxd))]) A) (([.ref ax] : List Value).toArray) s 0 0 A) (F0 m 4 ls []) := by
    intro n
    induction n with
    | zero =>
      intro l1 l2 rs H locs ls h
      rw [fX2_total_L4_0] at h
      cases h
    | succ n ih =>
      intro l1 l2 rs H locs ls h hl hP hD hS K
      rw [fX2_total_L4_s] at h
      refine lv_iload_n hx hb dX2_total_4 rfl (lv_at hl 2 rfl) ?_
      refine lv_aload_n hx hb dX2_total_5 rfl (lv_at hl 0 rfl) ?_
      refine va_get (D := (dC, dI)) (ci := 2) (v := .int vxs) (C := RX2) (T := TX2) (N := 2) hx hb hts hin_X2 hown hK hP 0 rfl rfl 1 (by decide) (hf_15) (fun _ h9 => h9) rfl dX2_total_6 ?_
      refine lv_icmp_ge (tgt := 27) hx hb dX2_total_9 (by decide) (fun c1 => ?_) (fun c1 => ?_)
      · rw [if_pos c1] at h
        have h0 := Option.some.inj h
        subst h0
        exact K H locs ls (lv_sub hl [0, 1, 2] rfl) hP hD hS
      · rw [if_neg c1] at h
        refine lv_iload_n hx hb dX2_total_12 rfl (lv_at hl 1 rfl) ?_
        refine lv_aload_n hx hb dX2_total_13 rfl (lv_at hl 0 rfl) ?_
        refine va_get (D := (dC, dI)) (ci := 2) (v := .ref axd) (C := RX2) (T := TX2) (N := 2) hx hb hts hin_X2 hown hK hP 0 rfl rfl 0 (by decide) (hf_9) (fun _ h9 => h9) rfl dX2_total_14 ?_
        refine lv_iload_n hx hb dX2_total_17 rfl (lv_at hl 2 rfl) ?_
        obtain ⟨hi, h⟩ := gin_some h
        refine va_iald hx hb hK hP 1 0 rfl rfl hi dX2_total_18 ?_
        refine lv_iadd hx hb dX2_total_19 ?_
        refine lv_istore_n (lv' := [(1, .int (l1 + (fxd l2.toNatClampNeg))), (0, .ref ax), (2, .int l2)]) hx hb dX2_total_20 rfl hl (by decide) rfl (fun ls hl => ?_)
        refine lv_iinc (v := l2 + (1 : Int32)) (lv' := [(2, .int (l2 + (1 : Int32))), (1, .int (l1 + (fxd l2.toNatClampNeg))), (0, .ref ax)]) hx hb dX2_total_21 hl (k := 2) rfl rfl (by decide) rfl (fun ls hl => ?_)
        refine lv_goto (tgt := 4) hx hb dX2_total_24 (by decide) ?_
        exact ih (l1 + (fxd l2.toNatClampNeg)) (l2 + (1 : Int32)) rs H locs ls h (lv_sub hl [2, 1, 0] rfl) hP hD hS K
  obtain ⟨q3, hq3, h⟩ := bd_some h
  refine L4_1 FU (0 : Int32) (0 : Int32) q3 H locs ls hq3 (lv_sub hl [2, 1, 0] rfl) hP hD hS (fun H locs ls hl hP hD hS => ?_)
  refine lv_iload_n hx hb dX2_total_27 rfl (lv_at hl 1 rfl) ?_
  have h0 := Option.some.inj h
  subst h0
  exact W.iret hx hb hr (fun t ht hW => ⟨⟨_, (), rfl, rfl, QW_mk hP hK hD ht hW⟩, hS.F ht⟩) hS.2.2 dX2_total_28

noncomputable def fX2_differing_L4 (n : Nat) (l2 : Int32) (l3 : Int32) (vxs : Int32) (fxd : Nat → Int32) (fod : Nat → Int32) : Option (Int32 × Int32) := match n with
  | 0 => none
  | n + 1 => if vxs ≤ l3 then (some (l2, l3)) else (gin l3 8 (gin l3 8 (if (fxd l3.toNatClampNeg) = (fod l3.toNatClampNeg) then (fX2_differing_L4 n l2 (l3 + (1 : Int32)) vxs fxd fod) else (fX2_differing_L4 n (l2 + (1 : Int32)) (l3 + (1 : Int32)) vxs fxd fod))))
theorem fX2_differing_L4_0 (l2 : Int32) (l3 : Int32) (vxs : Int32) (fxd : Nat → Int32) (fod : Nat → Int32) : fX2_differing_L4 0 l2 l3 vxs fxd fod = none := rfl
theorem fX2_differing_L4_s (n : Nat) (l2 : Int32) (l3 : Int32) (vxs : Int32) (fxd : Nat → Int32) (fod : Nat → Int32) : fX2_differing_L4 (n + 1) l2 l3 vxs fxd fod = if vxs ≤ l3 then (some (l2, l3)) else (gin l3 8 (gin l3 8 (if (fxd l3.toNatClampNeg) = (fod l3.toNatClampNeg) then (fX2_differing_L4 n l2 (l3 + (1 : Int32)) vxs fxd fod) else (fX2_differing_L4 n (l2 + (1 : Int32)) (l3 + (1 : Int32)) vxs fxd fod)))) := rfl
noncomputable def fX2_differing (vxs : Int32) (fxd : Nat → Int32) (fod : Nat → Int32)  : Option (Int32) := bd (fX2_differing_L4 FU (0 : Int32) (0 : Int32) vxs fxd fod) fun q4 => some q4.1
set_option maxHeartbeats 4000000 in
set_option maxRecDepth 100000 in
theorem c_X2_differing (l : Launch) (dC : Nat → ClassId) (dI : Nat → Nat → Nat) (cy : ClassId) (ax axd ao aod : Nat) (sz : Nat) (vxs : Int32) (fxd : Nat → Int32) (vos : Int32) (fod : Nat → Int32)  (res : Int32) (h : fX2_differing vxs fxd fod = some res) : Met l yX2_differing wsX2_differing ({ frames := 0, cells := 0, slots := 0, locals := 0 }) (va_Pc [.ref ax, .ref ao] (PW (dC, dI) cy sz [(ax, .inr (2, [.ref axd, .int vxs])), (axd, .inl (cy, 8, .inl fxd)), (ao, .inr (2, [.ref aod, .int vos])), (aod, .inl (cy, 8, .inl fod))])) (va_Qi (fun (r : Int32) (_ : Unit) => r = res) (QW (dC, dI) cy (va_A [(ax, .inr (2, [.ref axd, .int vxs])), (axd, .inl (cy, 8, .inl fxd)), (ao, .inr (2, [.ref aod, .int vos])), (aod, .inl (cy, 8, .inl fod))] sz) [(ax, .inr (2, [.ref axd, .int vxs])), (axd, .inl (cy, 8, .inl fxd)), (ao, .inr (2, [.ref aod, .int vos])), (aod, .inl (cy, 8, .inl fod))]) (va_A [(ax, .inr (2, [.ref axd, .int vxs])), (axd, .inl (cy, 8, .inl fxd)), (ao, .inr (2, [.ref aod, .int vos])), (aod, .inl (cy, 8, .inl fod))] sz)) 0 0 (va_A [(ax, .inr (2, [.ref axd, .int vxs])), (axd, .inl (cy, 8, .inl fxd)), (ao, .inr (2, [.ref aod, .int vos])), (aod, .inl (cy, 8, .inl fod))] sz) := by
  refine Met.ofW (cc := cX2_differing) (maxL := 4) (ret := (some .int)) (by decide) rfl ?_
  intro p e s m args below meth c s₁ B hml hv
  obtain ⟨rfl, hsz, hP, hK, hD0, hN⟩ := hv
  have hx := B.exec
  have hb := B.bytes
  have hr := B.returns
  have hts := atoms_spec (ws := wsX2_differing) B.pre
  have hown : s.vm.findClass RX2 = some m.cls := findClass_of_methodNamed B.named
  have hlocks := B.notSynchronized
  subst hsz
  have hD := hD0.self (sz := s.heap.size)
  clear hD0
  generalize hAe : va_A [(ax, .inr (2, [.ref axd, .int vxs])), (axd, .inl (cy, 8, .inl fxd)), (ao, .inr (2, [.ref aod, .int vos])), (aod, .inl (cy, 8, .inl fod))] s.heap.size = A at hD ⊢
  have hA : ∀ q : Nat, s.heap.size ≤ q → A q := fun q h => by rw [← hAe]; exact Or.inr h
  have hS : va_S A s.heap s.heap [] := va_S.rf
  have hl := lv_entry ([.ref ax, .ref ao]) (n := 4) (Nat.le_of_ble_eq_true rfl)
  rw [lg_entry_eq]
  generalize (lg_sl ([.ref ax, .ref ao]) ++ List.replicate (4 - (lg_sl ([.ref ax, .ref ao])).length) Slot.unset).toArray = ls at hl ⊢
  replace hl : lv_has ls 4 [(0, .ref ax), (1, .ref ao)] := hl
  replace hP : va_P (dC, dI) vwCl [(ax, .inr (2, [.ref axd, .int vxs])), (axd, .inl (cy, 8, .inl fxd)), (ao, .inr (2, [.ref aod, .int vos])), (aod, .inl (cy, 8, .inl fod))] s.heap := hP
  obtain ⟨locs, hlocs⟩ : ∃ lc : List Loc, lc = [] := ⟨_, rfl⟩
  rw [← hlocs] at hS ⊢
  obtain ⟨H, hH⟩ : ∃ H : Heap, H = s.heap := ⟨_, rfl⟩
  have hP2 := hP; rw [← hH] at hP2
  have hS2 : va_S A s.heap H locs := by rw [hH]; exact hS
  suffices hgo : W p l e (headSpec wsX2_differing ({ frames := 0, cells := 0, slots := 0, locals := 0 })).room s m (([.ref ax, .ref ao] : List Value).toArray) below meth c H locs 0 0 (MQ below (va_Qi (fun (r : Int32) (_ : Unit) => r = res) (QW (dC, dI) cy A [(ax, .inr (2, [.ref axd, .int vxs])), (axd, .inl (cy, 8, .inl fxd)), (ao, .inr (2, [.ref aod, .int vos])), (aod, .inl (cy, 8, .inl fod))]) A) (([.ref ax, .ref ao] : List Value).toArray) s 0 0 A) (F0 m 0 ls []) by rw [hH] at hgo; exact hgo
  replace hP := hP2
  replace hS := hS2
  clear hP2 hS2
  have hin_X2 : ∀ w ∈ wsX20, w ∈ wsX2_differing := by decide +kernel
  have hf_9 := hts (.fieldLink RX2 9 "FewLooks$Row" "digits" "[I") (by decide +kernel)
  have hf_15 := hts (.fieldLink RX2 15 "FewLooks$Row" "size" "I") (by decide +kernel)
  unfold fX2_differing at h
  refine lv_iconst (v := (0 : Int32)) hx hb dX2_differing_0 (by decide) ?_
  refine lv_istore_n (lv' := [(2, .int (0 : Int32)), (0, .ref ax), (1, .ref ao)]) hx hb dX2_differing_1 rfl hl (by decide) rfl (fun ls hl => ?_)
  refine lv_iconst (v := (0 : Int32)) hx hb dX2_differing_2 (by decide) ?_
  refine lv_istore_n (lv' := [(3, .int (0 : Int32)), (2, .int (0 : Int32)), (0, .ref ax), (1, .ref ao)]) hx hb dX2_differing_3 rfl hl (by decide) rfl (fun ls hl => ?_)
  have L4_2 : ∀ (n : Nat) (l2 : Int32) (l3 : Int32) (rs : (Int32 × Int32)) (H : Heap) (locs : List Loc) (ls : Array Slot), fX2_differing_L4 n l2 l3 vxs fxd fod = some rs → lv_has ls 4 [(0, .ref ax), (1, .ref ao), (2, .int l2), (3, .int l3)] → va_P (dC, dI) vwCl [(ax, .inr (2, [.ref axd, .int vxs])), (axd, .inl (cy, 8, .inl fxd)), (ao, .inr (2, [.ref aod, .int vos])), (aod, .inl (cy, 8, .inl fod))] H → va_D A [(ax, .inr (2, [.ref axd, .int vxs])), (axd, .inl (cy, 8, .inl fxd)), (ao, .inr (2, [.ref aod, .int vos])), (aod, .inl (cy, 8, .inl fod))] → va_S A s.heap H locs → (∀ (H : Heap) (locs : List Loc) (ls : Array Slot), lv_has ls 4 [(0, .ref ax), (1, .ref ao), (2, .int rs.1), (3, .int rs.2)] → va_P (dC, dI) vwCl [(ax, .inr (2, [.ref axd, .int vxs])), (axd, .inl (cy, 8, .inl fxd)), (ao, .inr (2, [.ref aod, .int vos])), (aod, .inl (cy, 8, .inl fod))] H → va_D A [(ax, .inr (2, [.ref axd, .int vxs])), (axd, .inl (cy, 8, .inl fxd)), (ao, .inr (2, [.ref aod, .int vos])), (aod, .inl (cy, 8, .inl fod))] → va_S A s.heap H locs → W p l e (headSpec wsX2_differing ({ frames := 0, cells := 0, slots := 0, locals := 0 })).room s m (([.ref ax, .ref ao] : List Value).toArray) below meth c H locs 0 0 (MQ below (va_Qi (fun (r : Int32) (_ : Unit) => r = res) (QW (dC, dI) cy A [(ax, .inr (2, [.ref axd, .int vxs])), (axd, .inl (cy, 8, .inl fxd)), (ao, .inr (2, [.ref aod, .int vos])), (aod, .inl (cy, 8, .inl fod))]) A) (([.ref ax, .ref ao] : List Value).toArray) s 0 0 A) (F0 m 36 ls [])) → W p l e (headSpec wsX2_differing ({ frames := 0, cells := 0, slots := 0, locals := 0 })).room s m (([.ref ax, .ref ao] : List Value).toArray) below meth c H locs 0 0 (MQ below (va_Qi (fun (r : Int32) (_ : Unit) => r = res) (QW (dC, dI) cy A [(ax, .inr (2, [.ref axd, .int vxs])), (axd, .inl (cy, 8, .inl fxd)), (ao, .inr (2, [.ref aod, .int vos])), (aod, .inl (cy, 8, .inl fod))]) A) (([.ref ax, .ref ao] : List Value).toArray) s 0 0 A) (F0 m 4 ls []) := by
    intro n
    induction n with
    | zero =>
      intro l2 l3 rs H locs ls h
      rw [fX2_differing_L4_0] at h
      cases h
    | succ n ih =>
      intro l2 l3 rs H locs ls h hl hP hD hS K
      rw [fX2_differing_L4_s] at h
      refine lv_iload_n hx hb dX2_differing_4 rfl (lv_at hl 3 rfl) ?_
      refine lv_aload_n hx hb dX2_differing_5 rfl (lv_at hl 0 rfl) ?_
      refine va_get (D := (dC, dI)) (ci := 2) (v := .int vxs) (C := RX2) (T := TX2) (N := 2) hx hb hts hin_X2 hown hK hP 0 rfl rfl 1 (by decide) (hf_15) (fun _ h9 => h9) rfl dX2_differing_6 ?_
      refine lv_icmp_ge (tgt := 36) hx hb dX2_differing_9 (by decide) (fun c2 => ?_) (fun c2 => ?_)
      · rw [if_pos c2] at h
        have h0 := Option.some.inj h
        subst h0
        exact K H locs ls (lv_sub hl [0, 1, 2, 3] rfl) hP hD hS
      · rw [if_neg c2] at h
        refine lv_aload_n hx hb dX2_differing_12 rfl (lv_at hl 0 rfl) ?_
        refine va_get (D := (dC, dI)) (ci := 2) (v := .ref axd) (C := RX2) (T := TX2) (N := 2) hx hb hts hin_X2 hown hK hP 0 rfl rfl 0 (by decide) (hf_9) (fun _ h9 => h9) rfl dX2_differing_13 ?_
        refine lv_iload_n hx hb dX2_differing_16 rfl (lv_at hl 3 rfl) ?_
        obtain ⟨hi, h⟩ := gin_some h
        refine va_iald hx hb hK hP 1 0 rfl rfl hi dX2_differing_17 ?_
        refine lv_aload_n hx hb dX2_differing_18 rfl (lv_at hl 1 rfl) ?_
        refine va_get (D := (dC, dI)) (ci := 2) (v := .ref aod) (C := RX2) (T := TX2) (N := 2) hx hb hts hin_X2 hown hK hP 2 rfl rfl 0 (by decide) (hf_9) (fun _ h9 => h9) rfl dX2_differing_19 ?_
        refine lv_iload_n hx hb dX2_differing_22 rfl (lv_at hl 3 rfl) ?_
        obtain ⟨hi, h⟩ := gin_some h
        refine va_iald hx hb hK hP 3 0 rfl rfl hi dX2_differing_23 ?_
        refine lv_icmp_eq (tgt := 30) hx hb dX2_differing_24 (by decide) (fun c1 => ?_) (fun c1 => ?_)
        · rw [if_pos c1] at h
          refine lv_iinc (v := l3 + (1 : Int32)) (lv' := [(3, .int (l3 + (1 : Int32))), (0, .ref ax), (1, .ref ao), (2, .int l2)]) hx hb dX2_differing_30 hl (k := 3) rfl rfl (by decide) rfl (fun ls hl => ?_)
          refine lv_goto (tgt := 4) hx hb dX2_differing_33 (by decide) ?_
          exact ih l2 (l3 + (1 : Int32)) rs H locs ls h (lv_sub hl [1, 2, 3, 0] rfl) hP hD hS K
        · rw [if_neg c1] at h
          refine lv_iinc (v := l2 + (1 : Int32)) (lv' := [(2, .int (l2 + (1 : Int32))), (0, .ref ax), (1, .ref ao), (3, .int l3)]) hx hb dX2_differing_27 hl (k := 2) rfl rfl (by decide) rfl (fun ls hl => ?_)
          refine lv_iinc (v := l3 + (1 : Int32)) (lv' := [(3, .int (l3 + (1 : Int32))), (2, .int (l2 + (1 : Int32))), (0, .ref ax), (1, .ref ao)]) hx hb dX2_differing_30 hl (k := 3) rfl rfl (by decide) rfl (fun ls hl => ?_)
          refine lv_goto (tgt := 4) hx hb dX2_differing_33 (by decide) ?_
          exact ih (l2 + (1 : Int32)) (l3 + (1 : Int32)) rs H locs ls h (lv_sub hl [2, 3, 1, 0] rfl) hP hD hS K
  obtain ⟨q4, hq4, h⟩ := bd_some h
  refine L4_2 FU (0 : Int32) (0 : Int32) q4 H locs ls hq4 (lv_sub hl [2, 3, 1, 0] rfl) hP hD hS (fun H locs ls hl hP hD hS => ?_)
  refine lv_iload_n hx hb dX2_differing_36 rfl (lv_at hl 2 rfl) ?_
  have h0 := Option.some.inj h
  subst h0
  exact W.iret hx hb hr (fun t ht hW => ⟨⟨_, (), rfl, rfl, QW_mk hP hK hD ht hW⟩, hS.F ht⟩) hS.2.2 dX2_differing_37

noncomputable def fX2_isAheadOf_L2 (n : Nat) (l2 : Int32) (vxs : Int32) (fxd : Nat → Int32) (fod : Nat → Int32) : Option ((Int32) ⊕ (Int32)) := match n with
  | 0 => none
  | n + 1 => if vxs ≤ l2 then (some (.inr l2)) else (gin l2 8 (gin l2 8 (if (fxd l2.toNatClampNeg) = (fod l2.toNatClampNeg) then (fX2_isAheadOf_L2 n (l2 + (1 : Int32)) vxs fxd fod) else (gin l2 8 (gin l2 8 (if (fod l2.toNatClampNeg) ≤ (fxd l2.toNatClampNeg) then (some (.inl (0 : Int32))) else (some (.inl (1 : Int32)))))))))
theorem fX2_isAheadOf_L2_0 (l2 : Int32) (vxs : Int32) (fxd : Nat → Int32) (fod : Nat → Int32) : fX2_isAheadOf_L2 0 l2 vxs fxd fod = none := rfl
theorem fX2_isAheadOf_L2_s (n : Nat) (l2 : Int32) (vxs : Int32) (fxd : Nat → Int32) (fod : Nat → Int32) : fX2_isAheadOf_L2 (n + 1) l2 vxs fxd fod = if vxs ≤ l2 then (some (.inr l2)) else (gin l2 8 (gin l2 8 (if (fxd l2.toNatClampNeg) = (fod l2.toNatClampNeg) then (fX2_isAheadOf_L2 n (l2 + (1 : Int32)) vxs fxd fod) else (gin l2 8 (gin l2 8 (if (fod l2.toNatClampNeg) ≤ (fxd l2.toNatClampNeg) then (some (.inl (0 : Int32))) else (some (.inl (1 : Int32))))))))) := rfl
noncomputable def fX2_isAheadOf (vxs : Int32) (fxd : Nat → Int32) (fod : Nat → Int32)  : Option (Int32) := bs (fX2_isAheadOf_L2 FU (0 : Int32) vxs fxd fod) fun q5 => some (0 : Int32)
set_option maxHeartbeats 4000000 in
set_option maxRecDepth 100000 in
theorem c_X2_isAheadOf (l : Launch) (dC : Nat → ClassId) (dI : Nat → Nat → Nat) (cy : ClassId) (ax axd ao aod : Nat) (sz : Nat) (vxs : Int32) (fxd : Nat → Int32) (vos : Int32) (fod : Nat → Int32)  (res : Int32) (h : fX2_isAheadOf vxs fxd fod = some res) : Met l yX2_isAheadOf wsX2_isAheadOf ({ frames := 0, cells := 0, slots := 0, locals := 0 }) (va_Pc [.ref ax, .ref ao] (PW (dC, dI) cy sz [(ax, .inr (2, [.ref axd, .int vxs])), (axd, .inl (cy, 8, .inl fxd)), (ao, .inr (2, [.ref aod, .int vos])), (aod, .inl (cy, 8, .inl fod))])) (va_Qi (fun (r : Int32) (_ : Unit) => r = res ∧ bo r) (QW (dC, dI) cy (va_A [(ax, .inr (2, [.ref axd, .int vxs])), (axd, .inl (cy, 8, .inl fxd)), (ao, .inr (2, [.ref aod, .int vos])), (aod, .inl (cy, 8, .inl fod))] sz) [(ax, .inr (2, [.ref axd, .int vxs])), (axd, .inl (cy, 8, .inl fxd)), (ao, .inr (2, [.ref aod, .int vos])), (aod, .inl (cy, 8, .inl fod))]) (va_A [(ax, .inr (2, [.ref axd, .int vxs])), (axd, .inl (cy, 8, .inl fxd)), (ao, .inr (2, [.ref aod, .int vos])), (aod, .inl (cy, 8, .inl fod))] sz)) 0 0 (va_A [(ax, .inr (2, [.ref axd, .int vxs])), (axd, .inl (cy, 8, .inl fxd)), (ao, .inr (2, [.ref aod, .int vos])), (aod, .inl (cy, 8, .inl fod))] sz) := by
  refine Met.ofW (cc := cX2_isAheadOf) (maxL := 3) (ret := (some .boolean)) (by decide) rfl ?_
  intro p e s m args below meth c s₁ B hml hv
  obtain ⟨rfl, hsz, hP, hK, hD0, hN⟩ := hv
  have hx := B.exec
  have hb := B.bytes
  have hr := B.returns
  have hts := atoms_spec (ws := wsX2_isAheadOf) B.pre
  have hown : s.vm.findClass RX2 = some m.cls := findClass_of_methodNamed B.named
  have hlocks := B.notSynchronized
  subst hsz
  have hD := hD0.self (sz := s.heap.size)
  clear hD0
  generalize hAe : va_A [(ax, .inr (2, [.ref axd, .int vxs])), (axd, .inl (cy, 8, .inl fxd)), (ao, .inr (2, [.ref aod, .int vos])), (aod, .inl (cy, 8, .inl fod))] s.heap.size = A at hD ⊢
  have hA : ∀ q : Nat, s.heap.size ≤ q → A q := fun q h => by rw [← hAe]; exact Or.inr h
  have hS : va_S A s.heap s.heap [] := va_S.rf
  have hl := lv_entry ([.ref ax, .ref ao]) (n := 3) (Nat.le_of_ble_eq_true rfl)
  rw [lg_entry_eq]
  generalize (lg_sl ([.ref ax, .ref ao]) ++ List.replicate (3 - (lg_sl ([.ref ax, .ref ao])).length) Slot.unset).toArray = ls at hl ⊢
  replace hl : lv_has ls 3 [(0, .ref ax), (1, .ref ao)] := hl
  replace hP : va_P (dC, dI) vwCl [(ax, .inr (2, [.ref axd, .int vxs])), (axd, .inl (cy, 8, .inl fxd)), (ao, .inr (2, [.ref aod, .int vos])), (aod, .inl (cy, 8, .inl fod))] s.heap := hP
  obtain ⟨locs, hlocs⟩ : ∃ lc : List Loc, lc = [] := ⟨_, rfl⟩
  rw [← hlocs] at hS ⊢
  obtain ⟨H, hH⟩ : ∃ H : Heap, H = s.heap := ⟨_, rfl⟩
  have hP2 := hP; rw [← hH] at hP2
  have hS2 : va_S A s.heap H locs := by rw [hH]; exact hS
  suffices hgo : W p l e (headSpec wsX2_isAheadOf ({ frames := 0, cells := 0, slots := 0, locals := 0 })).room s m (([.ref ax, .ref ao] : List Value).toArray) below meth c H locs 0 0 (MQ below (va_Qi (fun (r : Int32) (_ : Unit) => r = res ∧ bo r) (QW (dC, dI) cy A [(ax, .inr (2, [.ref axd, .int vxs])), (axd, .inl (cy, 8, .inl fxd)), (ao, .inr (2, [.ref aod, .int vos])), (aod, .inl (cy, 8, .inl fod))]) A) (([.ref ax, .ref ao] : List Value).toArray) s 0 0 A) (F0 m 0 ls []) by rw [hH] at hgo; exact hgo
  replace hP := hP2
  replace hS := hS2
  clear hP2 hS2
  have hin_X2 : ∀ w ∈ wsX20, w ∈ wsX2_isAheadOf := by decide +kernel
  have hf_9 := hts (.fieldLink RX2 9 "FewLooks$Row" "digits" "[I") (by decide +kernel)
  have hf_15 := hts (.fieldLink RX2 15 "FewLooks$Row" "size" "I") (by decide +kernel)
  unfold fX2_isAheadOf at h
  refine lv_iconst (v := (0 : Int32)) hx hb dX2_isAheadOf_0 (by decide) ?_
  refine lv_istore_n (lv' := [(2, .int (0 : Int32)), (0, .ref ax), (1, .ref ao)]) hx hb dX2_isAheadOf_1 rfl hl (by decide) rfl (fun ls hl => ?_)
  have L2_3 : ∀ (n : Nat) (l2 : Int32) (rs : ((Int32) ⊕ (Int32))) (H : Heap) (locs : List Loc) (ls : Array Slot), fX2_isAheadOf_L2 n l2 vxs fxd fod = some rs → lv_has ls 3 [(0, .ref ax), (1, .ref ao), (2, .int l2)] → va_P (dC, dI) vwCl [(ax, .inr (2, [.ref axd, .int vxs])), (axd, .inl (cy, 8, .inl fxd)), (ao, .inr (2, [.ref aod, .int vos])), (aod, .inl (cy, 8, .inl fod))] H → va_D A [(ax, .inr (2, [.ref axd, .int vxs])), (axd, .inl (cy, 8, .inl fxd)), (ao, .inr (2, [.ref aod, .int vos])), (aod, .inl (cy, 8, .inl fod))] → va_S A s.heap H locs → (∀ q, rs = .inl q → q = res) → (∀ q, rs = .inr q → (∀ (H : Heap) (locs : List Loc) (ls : Array Slot), lv_has ls 3 [(0, .ref ax), (1, .ref ao), (2, .int q)] → va_P (dC, dI) vwCl [(ax, .inr (2, [.ref axd, .int vxs])), (axd, .inl (cy, 8, .inl fxd)), (ao, .inr (2, [.ref aod, .int vos])), (aod, .inl (cy, 8, .inl fod))] H → va_D A [(ax, .inr (2, [.ref axd, .int vxs])), (axd, .inl (cy, 8, .inl fxd)), (ao, .inr (2, [.ref aod, .int vos])), (aod, .inl (cy, 8, .inl fod))] → va_S A s.heap H locs → W p l e (headSpec wsX2_isAheadOf ({ frames := 0, cells := 0, slots := 0, locals := 0 })).room s m (([.ref ax, .ref ao] : List Value).toArray) below meth c H locs 0 0 (MQ below (va_Qi (fun (r : Int32) (_ : Unit) => r = res ∧ bo r) (QW (dC, dI) cy A [(ax, .inr (2, [.ref axd, .int vxs])), (axd, .inl (cy, 8, .inl fxd)), (ao, .inr (2, [.ref aod, .int vos])), (aod, .inl (cy, 8, .inl fod))]) A) (([.ref ax, .ref ao] : List Value).toArray) s 0 0 A) (F0 m 52 ls []))) → W p l e (headSpec wsX2_isAheadOf ({ frames := 0, cells := 0, slots := 0, locals := 0 })).room s m (([.ref ax, .ref ao] : List Value).toArray) below meth c H locs 0 0 (MQ below (va_Qi (fun (r : Int32) (_ : Unit) => r = res ∧ bo r) (QW (dC, dI) cy A [(ax, .inr (2, [.ref axd, .int vxs])), (axd, .inl (cy, 8, .inl fxd)), (ao, .inr (2, [.ref aod, .int vos])), (aod, .inl (cy, 8, .inl fod))]) A) (([.ref ax, .ref ao] : List Value).toArray) s 0 0 A) (F0 m 2 ls []) := by
    intro n
    induction n with
    | zero =>
      intro l2 rs H locs ls h
      rw [fX2_isAheadOf_L2_0] at h
      cases h
    | succ n ih =>
      intro l2 rs H locs ls h hl hP hD hS kr kx
      rw [fX2_isAheadOf_L2_s] at h
      refine lv_iload_n hx hb dX2_isAheadOf_2 rfl (lv_at hl 2 rfl) ?_
      refine lv_aload_n hx hb dX2_isAheadOf_3 rfl (lv_at hl 0 rfl) ?_
      refine va_get (D := (dC, dI)) (ci := 2) (v := .int vxs) (C := RX2) (T := TX2) (N := 2) hx hb hts hin_X2 hown hK hP 0 rfl rfl 1 (by decide) (hf_15) (fun _ h9 => h9) rfl dX2_isAheadOf_4 ?_
      refine lv_icmp_ge (tgt := 52) hx hb dX2_isAheadOf_7 (by decide) (fun c3 => ?_) (fun c3 => ?_)
      · rw [if_pos c3] at h
        have h0 := Option.some.inj h
        subst h0
        exact kx _ rfl H locs ls (lv_sub hl [0, 1, 2] rfl) hP hD hS
      · rw [if_neg c3] at h
        refine lv_aload_n hx hb dX2_isAheadOf_10 rfl (lv_at hl 0 rfl) ?_
        refine va_get (D := (dC, dI)) (ci := 2) (v := .ref axd) (C := RX2) (T := TX2) (N := 2) hx hb hts hin_X2 hown hK hP 0 rfl rfl 0 (by decide) (hf_9) (fun _ h9 => h9) rfl dX2_isAheadOf_11 ?_
        refine lv_iload_n hx hb dX2_isAheadOf_14 rfl (lv_at hl 2 rfl) ?_
        obtain ⟨hi, h⟩ := gin_some h
        refine va_iald hx hb hK hP 1 0 rfl rfl hi dX2_isAheadOf_15 ?_
        refine lv_aload_n hx hb dX2_isAheadOf_16 rfl (lv_at hl 1 rfl) ?_
        refine va_get (D := (dC, dI)) (ci := 2) (v := .ref aod) (C := RX2) (T := TX2) (N := 2) hx hb hts hin_X2 hown hK hP 2 rfl rfl 0 (by decide) (hf_9) (fun _ h9 => h9) rfl dX2_isAheadOf_17 ?_
        refine lv_iload_n hx hb dX2_isAheadOf_20 rfl (lv_at hl 2 rfl) ?_
        obtain ⟨hi, h⟩ := gin_some h
        refine va_iald hx hb hK hP 3 0 rfl rfl hi dX2_isAheadOf_21 ?_
        refine lv_icmp_eq (tgt := 46) hx hb dX2_isAheadOf_22 (by decide) (fun c2 => ?_) (fun c2 => ?_)
        · rw [if_pos c2] at h
          refine lv_iinc (v := l2 + (1 : Int32)) (lv' := [(2, .int (l2 + (1 : Int32))), (0, .ref ax), (1, .ref ao)]) hx hb dX2_isAheadOf_46 hl (k := 2) rfl rfl (by decide) rfl (fun ls hl => ?_)
          refine lv_goto (tgt := 2) hx hb dX2_isAheadOf_49 (by decide) ?_
          exact ih (l2 + (1 : Int32)) rs H locs ls h (lv_sub hl [1, 2, 0] rfl) hP hD hS kr kx
        · rw [if_neg c2] at h
          refine lv_aload_n hx hb dX2_isAheadOf_25 rfl (lv_at hl 0 rfl) ?_
          refine va_get (D := (dC, dI)) (ci := 2) (v := .ref axd) (C := RX2) (T := TX2) (N := 2) hx hb hts hin_X2 hown hK hP 0 rfl rfl 0 (by decide) (hf_9) (fun _ h9 => h9) rfl dX2_isAheadOf_26 ?_
          refine lv_iload_n hx hb dX2_isAheadOf_29 rfl (lv_at hl 2 rfl) ?_
          obtain ⟨hi, h⟩ := gin_some h
          refine va_iald hx hb hK hP 1 0 rfl rfl hi dX2_isAheadOf_30 ?_
          refine lv_aload_n hx hb dX2_isAheadOf_31 rfl (lv_at hl 1 rfl) ?_
          refine va_get (D := (dC, dI)) (ci := 2) (v := .ref aod) (C := RX2) (T := TX2) (N := 2) hx hb hts hin_X2 hown hK hP 2 rfl rfl 0 (by decide) (hf_9) (fun _ h9 => h9) rfl dX2_isAheadOf_32 ?_
          refine lv_iload_n hx hb dX2_isAheadOf_35 rfl (lv_at hl 2 rfl) ?_
          obtain ⟨hi, h⟩ := gin_some h
          refine va_iald hx hb hK hP 3 0 rfl rfl hi dX2_isAheadOf_36 ?_
          refine lv_icmp_ge (tgt := 44) hx hb dX2_isAheadOf_37 (by decide) (fun c1 => ?_) (fun c1 => ?_)
          · rw [if_pos c1] at h
            refine lv_iconst (v := (0 : Int32)) hx hb dX2_isAheadOf_44 (by decide) ?_
            have h0 := Option.some.inj h
            subst h0
            have hk := kr _ rfl
            subst hk
            exact W.zret (ty := .boolean) hx hb hr bo_0 (fun t ht hW => ⟨⟨_, (), rfl, ⟨rfl, bo_0⟩, QW_mk hP hK hD ht hW⟩, hS.F ht⟩) hS.2.2 dX2_isAheadOf_45
          · rw [if_neg c1] at h
            refine lv_iconst (v := (1 : Int32)) hx hb dX2_isAheadOf_40 (by decide) ?_
            refine lv_goto (tgt := 45) hx hb dX2_isAheadOf_41 (by decide) ?_
            have h0 := Option.some.inj h
            subst h0
            have hk := kr _ rfl
            subst hk
            exact W.zret (ty := .boolean) hx hb hr bo_1 (fun t ht hW => ⟨⟨_, (), rfl, ⟨rfl, bo_1⟩, QW_mk hP hK hD ht hW⟩, hS.F ht⟩) hS.2.2 dX2_isAheadOf_45
  obtain ⟨rq5, hq5, kq5, xq5⟩ := bs_some h
  refine L2_3 FU (0 : Int32) rq5 H locs ls hq5 (lv_sub hl [1, 2, 0] rfl) hP hD hS kq5 (fun q5 eq5 H locs ls hl hP hD hS => ?_)
  replace h := xq5 q5 eq5
  refine lv_iconst (v := (0 : Int32)) hx hb dX2_isAheadOf_52 (by decide) ?_
  have h0 := Option.some.inj h
  subst h0
  exact W.zret (ty := .boolean) hx hb hr bo_0 (fun t ht hW => ⟨⟨_, (), rfl, ⟨rfl, bo_0⟩, QW_mk hP hK hD ht hW⟩, hS.F ht⟩) hS.2.2 dX2_isAheadOf_53

noncomputable def fX2_looks (vxs : Int32) (p0 : Int32) : Option (Int32) := if p0 = (0 : Int32) then (some ((vxs * (vxs - (1 : Int32))) / (2 : Int32))) else (if p0 = (1 : Int32) then (some vxs) else (if p0 = (2 : Int32) then (some (1 : Int32)) else (some (vxs * (vxs - (1 : Int32))))))
set_option maxHeartbeats 4000000 in
set_option maxRecDepth 100000 in
theorem c_X2_looks (l : Launch) (dC : Nat → ClassId) (dI : Nat → Nat → Nat) (cy : ClassId) (ax axd : Nat) (sz : Nat) (vxs : Int32) (p0 : Int32) (res : Int32) (h : fX2_looks vxs p0 = some res) : Met l yX2_looks wsX2_looks ({ frames := 0, cells := 0, slots := 0, locals := 0 }) (va_Pc [.ref ax, .int p0] (PW (dC, dI) cy sz [(ax, .inr (2, [.ref axd, .int vxs]))])) (va_Qi (fun (r : Int32) (_ : Unit) => r = res) (QW (dC, dI) cy (va_A [(ax, .inr (2, [.ref axd, .int vxs]))] sz) [(ax, .inr (2, [.ref axd, .int vxs]))]) (va_A [(ax, .inr (2, [.ref axd, .int vxs]))] sz)) 0 0 (va_A [(ax, .inr (2, [.ref axd, .int vxs]))] sz) := by
  refine Met.ofW (cc := cX2_looks) (maxL := 2) (ret := (some .int)) (by decide) rfl ?_
  intro p e s m args below meth c s₁ B hml hv
  obtain ⟨rfl, hsz, hP, hK, hD0, hN⟩ := hv
  have hx := B.exec
  have hb := B.bytes
  have hr := B.returns
  have hts := atoms_spec (ws := wsX2_looks) B.pre
  have hown : s.vm.findClass RX2 = some m.cls := findClass_of_methodNamed B.named
  have hlocks := B.notSynchronized
  subst hsz
  have hD := hD0.self (sz := s.heap.size)
  clear hD0
  generalize hAe : va_A [(ax, .inr (2, [.ref axd, .int vxs]))] s.heap.size = A at hD ⊢
  have hA : ∀ q : Nat, s.heap.size ≤ q → A q := fun q h => by rw [← hAe]; exact Or.inr h
  have hS : va_S A s.heap s.heap [] := va_S.rf
  have hl := lv_entry ([.ref ax, .int p0]) (n := 2) (Nat.le_of_ble_eq_true rfl)
  rw [lg_entry_eq]
  generalize (lg_sl ([.ref ax, .int p0]) ++ List.replicate (2 - (lg_sl ([.ref ax, .int p0])).length) Slot.unset).toArray = ls at hl ⊢
  replace hl : lv_has ls 2 [(0, .ref ax), (1, .int p0)] := hl
  replace hP : va_P (dC, dI) vwCl [(ax, .inr (2, [.ref axd, .int vxs]))] s.heap := hP
  obtain ⟨locs, hlocs⟩ : ∃ lc : List Loc, lc = [] := ⟨_, rfl⟩
  rw [← hlocs] at hS ⊢
  obtain ⟨H, hH⟩ : ∃ H : Heap, H = s.heap := ⟨_, rfl⟩
  have hP2 := hP; rw [← hH] at hP2
  have hS2 : va_S A s.heap H locs := by rw [hH]; exact hS
  suffices hgo : W p l e (headSpec wsX2_looks ({ frames := 0, cells := 0, slots := 0, locals := 0 })).room s m (([.ref ax, .int p0] : List Value).toArray) below meth c H locs 0 0 (MQ below (va_Qi (fun (r : Int32) (_ : Unit) => r = res) (QW (dC, dI) cy A [(ax, .inr (2, [.ref axd, .int vxs]))]) A) (([.ref ax, .int p0] : List Value).toArray) s 0 0 A) (F0 m 0 ls []) by rw [hH] at hgo; exact hgo
  replace hP := hP2
  replace hS := hS2
  clear hP2 hS2
  have hin_X2 : ∀ w ∈ wsX20, w ∈ wsX2_looks := by decide +kernel
  have hf_15 := hts (.fieldLink RX2 15 "FewLooks$Row" "size" "I") (by decide +kernel)
  unfold fX2_looks at h
  refine lv_iload_n hx hb dX2_looks_0 rfl (lv_at hl 1 rfl) ?_
  by_cases c1 : p0 = (0 : Int32)
  · rw [if_pos c1] at h
    have ec1 : (p0).toInt = 0 := by rw [c1]; rfl
    refine lv_tableIn (tgt := 28) hx hb dX2_looks_1 (by rw [ec1]; decide) (by rw [ec1]; decide) (by rw [ec1]; rfl) (by decide) ?_
    refine lv_aload_n hx hb dX2_looks_28 rfl (lv_at hl 0 rfl) ?_
    refine va_get (D := (dC, dI)) (ci := 2) (v := .int vxs) (C := RX2) (T := TX2) (N := 2) hx hb hts hin_X2 hown hK hP 0 rfl rfl 1 (by decide) (hf_15) (fun _ h9 => h9) rfl dX2_looks_29 ?_
    refine lv_aload_n hx hb dX2_looks_32 rfl (lv_at hl 0 rfl) ?_
    refine va_get (D := (dC, dI)) (ci := 2) (v := .int vxs) (C := RX2) (T := TX2) (N := 2) hx hb hts hin_X2 hown hK hP 0 rfl rfl 1 (by decide) (hf_15) (fun _ h9 => h9) rfl dX2_looks_33 ?_
    refine lv_iconst (v := (1 : Int32)) hx hb dX2_looks_36 (by decide) ?_
    refine lv_isub hx hb dX2_looks_37 ?_
    refine lv_imul hx hb dX2_looks_38 ?_
    refine lv_iconst (v := (2 : Int32)) hx hb dX2_looks_39 (by decide) ?_
    refine lv_idiv hx hb dX2_looks_40 (by decide) ?_
    have h0 := Option.some.inj h
    subst h0
    exact W.iret hx hb hr (fun t ht hW => ⟨⟨_, (), rfl, rfl, QW_mk hP hK hD ht hW⟩, hS.F ht⟩) hS.2.2 dX2_looks_41
  · rw [if_neg c1] at h
    by_cases c2 : p0 = (1 : Int32)
    · rw [if_pos c2] at h
      have ec2 : (p0).toInt = 1 := by rw [c2]; rfl
      refine lv_tableIn (tgt := 42) hx hb dX2_looks_1 (by rw [ec2]; decide) (by rw [ec2]; decide) (by rw [ec2]; rfl) (by decide) ?_
      refine lv_aload_n hx hb dX2_looks_42 rfl (lv_at hl 0 rfl) ?_
      refine va_get (D := (dC, dI)) (ci := 2) (v := .int vxs) (C := RX2) (T := TX2) (N := 2) hx hb hts hin_X2 hown hK hP 0 rfl rfl 1 (by decide) (hf_15) (fun _ h9 => h9) rfl dX2_looks_43 ?_
      have h0 := Option.some.inj h
      subst h0
      exact W.iret hx hb hr (fun t ht hW => ⟨⟨_, (), rfl, rfl, QW_mk hP hK hD ht hW⟩, hS.F ht⟩) hS.2.2 dX2_looks_46
    · rw [if_neg c2] at h
      by_cases c3 : p0 = (2 : Int32)
      · rw [if_pos c3] at h
        have ec3 : (p0).toInt = 2 := by rw [c3]; rfl
        refine lv_tableIn (tgt := 47) hx hb dX2_looks_1 (by rw [ec3]; decide) (by rw [ec3]; decide) (by rw [ec3]; rfl) (by decide) ?_
        refine lv_iconst (v := (1 : Int32)) hx hb dX2_looks_47 (by decide) ?_
        have h0 := Option.some.inj h
        subst h0
        exact W.iret hx hb hr (fun t ht hW => ⟨⟨_, (), rfl, rfl, QW_mk hP hK hD ht hW⟩, hS.F ht⟩) hS.2.2 dX2_looks_48
      · rw [if_neg c3] at h
        have hout := tb_out (x := p0) (n := 3) (by decide) (fun k hk => by rcases (show k = 0 ∨ k = 1 ∨ k = 2 by omega) with rfl | rfl | rfl; all_goals assumption)
        refine lv_tableOut (tgt := 49) hx hb dX2_looks_1 hout (by decide) ?_
        refine lv_aload_n hx hb dX2_looks_49 rfl (lv_at hl 0 rfl) ?_
        refine va_get (D := (dC, dI)) (ci := 2) (v := .int vxs) (C := RX2) (T := TX2) (N := 2) hx hb hts hin_X2 hown hK hP 0 rfl rfl 1 (by decide) (hf_15) (fun _ h9 => h9) rfl dX2_looks_50 ?_
        refine lv_aload_n hx hb dX2_looks_53 rfl (lv_at hl 0 rfl) ?_
        refine va_get (D := (dC, dI)) (ci := 2) (v := .int vxs) (C := RX2) (T := TX2) (N := 2) hx hb hts hin_X2 hown hK hP 0 rfl rfl 1 (by decide) (hf_15) (fun _ h9 => h9) rfl dX2_looks_54 ?_
        refine lv_iconst (v := (1 : Int32)) hx hb dX2_looks_57 (by decide) ?_
        refine lv_isub hx hb dX2_looks_58 ?_
        refine lv_imul hx hb dX2_looks_59 ?_
        have h0 := Option.some.inj h
        subst h0
        exact W.iret hx hb hr (fun t ht hW => ⟨⟨_, (), rfl, rfl, QW_mk hP hK hD ht hW⟩, hS.F ht⟩) hS.2.2 dX2_looks_60

noncomputable def fX2_risingPairs_L16 (n : Nat) (l1 : Int32) (l2 : Int32) (l3 : Int32) (vxs : Int32) (fxd : Nat → Int32) : Option (Int32 × Int32) := match n with
  | 0 => none
  | n + 1 => if vxs ≤ l3 then (some (l1, l3)) else (gin l2 8 (gin l3 8 (if (fxd l3.toNatClampNeg) < (fxd l2.toNatClampNeg) then (fX2_risingPairs_L16 n l1 l2 (l3 + (1 : Int32)) vxs fxd) else (fX2_risingPairs_L16 n (l1 + (1 : Int32)) l2 (l3 + (1 : Int32)) vxs fxd))))
theorem fX2_risingPairs_L16_0 (l1 : Int32) (l2 : Int32) (l3 : Int32) (vxs : Int32) (fxd : Nat → Int32) : fX2_risingPairs_L16 0 l1 l2 l3 vxs fxd = none := rfl
theorem fX2_risingPairs_L16_s (n : Nat) (l1 : Int32) (l2 : Int32) (l3 : Int32) (vxs : Int32) (fxd : Nat → Int32) : fX2_risingPairs_L16 (n + 1) l1 l2 l3 vxs fxd = if vxs ≤ l3 then (some (l1, l3)) else (gin l2 8 (gin l3 8 (if (fxd l3.toNatClampNeg) < (fxd l2.toNatClampNeg) then (fX2_risingPairs_L16 n l1 l2 (l3 + (1 : Int32)) vxs fxd) else (fX2_risingPairs_L16 n (l1 + (1 : Int32)) l2 (l3 + (1 : Int32)) vxs fxd)))) := rfl
noncomputable def fX2_risingPairs_L4 (n : Nat) (l1 : Int32) (l2 : Int32) (vxs : Int32) (fxd : Nat → Int32) : Option (Int32 × Int32) := match n with
  | 0 => none
  | n + 1 => if vxs ≤ l2 then (some (l1, l2)) else (bd (fX2_risingPairs_L16 FU l1 l2 (l2 + (1 : Int32)) vxs fxd) fun q4 => fX2_risingPairs_L4 n q4.1 (l2 + (1 : Int32)) vxs fxd)
theorem fX2_risingPairs_L4_0 (l1 : Int32) (l2 : Int32) (vxs : Int32) (fxd : Nat → Int32) : fX2_risingPairs_L4 0 l1 l2 vxs fxd = none := rfl
theorem fX2_risingPairs_L4_s (n : Nat) (l1 : Int32) (l2 : Int32) (vxs : Int32) (fxd : Nat → Int32) : fX2_risingPairs_L4 (n + 1) l1 l2 vxs fxd = if vxs ≤ l2 then (some (l1, l2)) else (bd (fX2_risingPairs_L16 FU l1 l2 (l2 + (1 : Int32)) vxs fxd) fun q4 => fX2_risingPairs_L4 n q4.1 (l2 + (1 : Int32)) vxs fxd) := rfl
noncomputable def fX2_risingPairs (vxs : Int32) (fxd : Nat → Int32)  : Option (Int32) := bd (fX2_risingPairs_L4 FU (0 : Int32) (0 : Int32) vxs fxd) fun q7 => some q7.1
set_option maxHeartbeats 4000000 in
set_option maxRecDepth 100000 in
theorem c_X2_risingPairs (l : Launch) (dC : Nat → ClassId) (dI : Nat → Nat → Nat) (cy : ClassId) (ax axd : Nat) (sz : Nat) (vxs : Int32) (fxd : Nat → Int32)  (res : Int32) (h : fX2_risingPairs vxs fxd = some res) : Met l yX2_risingPairs wsX2_risingPairs ({ frames := 0, cells := 0, slots := 0, locals := 0 }) (va_Pc [.ref ax] (PW (dC, dI) cy sz [(ax, .inr (2, [.ref axd, .int vxs])), (axd, .inl (cy, 8, .inl fxd))])) (va_Qi (fun (r : Int32) (_ : Unit) => r = res) (QW (dC, dI) cy (va_A [(ax, .inr (2, [.ref axd, .int vxs])), (axd, .inl (cy, 8, .inl fxd))] sz) [(ax, .inr (2, [.ref axd, .int vxs])), (axd, .inl (cy, 8, .inl fxd))]) (va_A [(ax, .inr (2, [.ref axd, .int vxs])), (axd, .inl (cy, 8, .inl fxd))] sz)) 0 0 (va_A [(ax, .inr (2, [.ref axd, .int vxs])), (axd, .inl (cy, 8, .inl fxd))] sz) := by
  refine Met.ofW (cc := cX2_risingPairs) (maxL := 4) (ret := (some .int)) (by decide) rfl ?_
  intro p e s m args below meth c s₁ B hml hv
  obtain ⟨rfl, hsz, hP, hK, hD0, hN⟩ := hv
  have hx := B.exec
  have hb := B.bytes
  have hr := B.returns
  have hts := atoms_spec (ws := wsX2_risingPairs) B.pre
  have hown : s.vm.findClass RX2 = some m.cls := findClass_of_methodNamed B.named
  have hlocks := B.notSynchronized
  subst hsz
  have hD := hD0.self (sz := s.heap.size)
  clear hD0
  generalize hAe : va_A [(ax, .inr (2, [.ref axd, .int vxs])), (axd, .inl (cy, 8, .inl fxd))] s.heap.size = A at hD ⊢
  have hA : ∀ q : Nat, s.heap.size ≤ q → A q := fun q h => by rw [← hAe]; exact Or.inr h
  have hS : va_S A s.heap s.heap [] := va_S.rf
  have hl := lv_entry ([.ref ax]) (n := 4) (Nat.le_of_ble_eq_true rfl)
  rw [lg_entry_eq]
  generalize (lg_sl ([.ref ax]) ++ List.replicate (4 - (lg_sl ([.ref ax])).length) Slot.unset).toArray = ls at hl ⊢
  replace hl : lv_has ls 4 [(0, .ref ax)] := hl
  replace hP : va_P (dC, dI) vwCl [(ax, .inr (2, [.ref axd, .int vxs])), (axd, .inl (cy, 8, .inl fxd))] s.heap := hP
  obtain ⟨locs, hlocs⟩ : ∃ lc : List Loc, lc = [] := ⟨_, rfl⟩
  rw [← hlocs] at hS ⊢
  obtain ⟨H, hH⟩ : ∃ H : Heap, H = s.heap := ⟨_, rfl⟩
  have hP2 := hP; rw [← hH] at hP2
  have hS2 : va_S A s.heap H locs := by rw [hH]; exact hS
  suffices hgo : W p l e (headSpec wsX2_risingPairs ({ frames := 0, cells := 0, slots := 0, locals := 0 })).room s m (([.ref ax] : List Value).toArray) below meth c H locs 0 0 (MQ below (va_Qi (fun (r : Int32) (_ : Unit) => r = res) (QW (dC, dI) cy A [(ax, .inr (2, [.ref axd, .int vxs])), (axd, .inl (cy, 8, .inl fxd))]) A) (([.ref ax] : List Value).toArray) s 0 0 A) (F0 m 0 ls []) by rw [hH] at hgo; exact hgo
  replace hP := hP2
  replace hS := hS2
  clear hP2 hS2
  have hin_X2 : ∀ w ∈ wsX20, w ∈ wsX2_risingPairs := by decide +kernel
  have hf_9 := hts (.fieldLink RX2 9 "FewLooks$Row" "digits" "[I") (by decide +kernel)
  have hf_15 := hts (.fieldLink RX2 15 "FewLooks$Row" "size" "I") (by decide +kernel)
  unfold fX2_risingPairs at h
  refine lv_iconst (v := (0 : Int32)) hx hb dX2_risingPairs_0 (by decide) ?_
  refine lv_istore_n (lv' := [(1, .int (0 : Int32)), (0, .ref ax)]) hx hb dX2_risingPairs_1 rfl hl (by decide) rfl (fun ls hl => ?_)
  refine lv_iconst (v := (0 : Int32)) hx hb dX2_risingPairs_2 (by decide) ?_
  refine lv_istore_n (lv' := [(2, .int (0 : Int32)), (1, .int (0 : Int32)), (0, .ref ax)]) hx hb dX2_risingPairs_3 rfl hl (by decide) rfl (fun ls hl => ?_)
  have L4_5 : ∀ (n : Nat) (l1 : Int32) (l2 : Int32) (rs : (Int32 × Int32)) (H : Heap) (locs : List Loc) (ls : Array Slot), fX2_risingPairs_L4 n l1 l2 vxs fxd = some rs → lv_has ls 4 [(0, .ref ax), (1, .int l1), (2, .int l2)] → va_P (dC, dI) vwCl [(ax, .inr (2, [.ref axd, .int vxs])), (axd, .inl (cy, 8, .inl fxd))] H → va_D A [(ax, .inr (2, [.ref axd, .int vxs])), (axd, .inl (cy, 8, .inl fxd))] → va_S A s.heap H locs → (∀ (H : Heap) (locs : List Loc) (ls : Array Slot), lv_has ls 4 [(0, .ref ax), (1, .int rs.1), (2, .int rs.2)] → va_P (dC, dI) vwCl [(ax, .inr (2, [.ref axd, .int vxs])), (axd, .inl (cy, 8, .inl fxd))] H → va_D A [(ax, .inr (2, [.ref axd, .int vxs])), (axd, .inl (cy, 8, .inl fxd))] → va_S A s.heap H locs → W p l e (headSpec wsX2_risingPairs ({ frames := 0, cells := 0, slots := 0, locals := 0 })).room s m (([.ref ax] : List Value).toArray) below meth c H locs 0 0 (MQ below (va_Qi (fun (r : Int32) (_ : Unit) => r = res) (QW (dC, dI) cy A [(ax, .inr (2, [.ref axd, .int vxs])), (axd, .inl (cy, 8, .inl fxd))]) A) (([.ref ax] : List Value).toArray) s 0 0 A) (F0 m 54 ls [])) → W p l e (headSpec wsX2_risingPairs ({ frames := 0, cells := 0, slots := 0, locals := 0 })).room s m (([.ref ax] : List Value).toArray) below meth c H locs 0 0 (MQ below (va_Qi (fun (r : Int32) (_ : Unit) => r = res) (QW (dC, dI) cy A [(ax, .inr (2, [.ref axd, .int vxs])), (axd, .inl (cy, 8, .inl fxd))]) A) (([.ref ax] : List Value).toArray) s 0 0 A) (F0 m 4 ls []) := by
    intro n
    induction n with
    | zero =>
      intro l1 l2 rs H locs ls h
      rw [fX2_risingPairs_L4_0] at h
      cases h
    | succ n ih =>
      intro l1 l2 rs H locs ls h hl hP hD hS K
      rw [fX2_risingPairs_L4_s] at h
      refine lv_iload_n hx hb dX2_risingPairs_4 rfl (lv_at hl 2 rfl) ?_
      refine lv_aload_n hx hb dX2_risingPairs_5 rfl (lv_at hl 0 rfl) ?_
      refine va_get (D := (dC, dI)) (ci := 2) (v := .int vxs) (C := RX2) (T := TX2) (N := 2) hx hb hts hin_X2 hown hK hP 0 rfl rfl 1 (by decide) (hf_15) (fun _ h9 => h9) rfl dX2_risingPairs_6 ?_
      refine lv_icmp_ge (tgt := 54) hx hb dX2_risingPairs_9 (by decide) (fun c5 => ?_) (fun c5 => ?_)
      · rw [if_pos c5] at h
        have h0 := Option.some.inj h
        subst h0
        exact K H locs ls (lv_sub hl [0, 1, 2] rfl) hP hD hS
      · rw [if_neg c5] at h
        refine lv_iload_n hx hb dX2_risingPairs_12 rfl (lv_at hl 2 rfl) ?_
        refine lv_iconst (v := (1 : Int32)) hx hb dX2_risingPairs_13 (by decide) ?_
        refine lv_iadd hx hb dX2_risingPairs_14 ?_
        refine lv_istore_n (lv' := [(3, .int (l2 + (1 : Int32))), (0, .ref ax), (1, .int l1), (2, .int l2)]) hx hb dX2_risingPairs_15 rfl hl (by decide) rfl (fun ls hl => ?_)
        have L16_2 : ∀ (n : Nat) (l1 : Int32) (l2 : Int32) (l3 : Int32) (rs : (Int32 × Int32)) (H : Heap) (locs : List Loc) (ls : Array Slot), fX2_risingPairs_L16 n l1 l2 l3 vxs fxd = some rs → lv_has ls 4 [(0, .ref ax), (1, .int l1), (2, .int l2), (3, .int l3)] → va_P (dC, dI) vwCl [(ax, .inr (2, [.ref axd, .int vxs])), (axd, .inl (cy, 8, .inl fxd))] H → va_D A [(ax, .inr (2, [.ref axd, .int vxs])), (axd, .inl (cy, 8, .inl fxd))] → va_S A s.heap H locs → (∀ (H : Heap) (locs : List Loc) (ls : Array Slot), lv_has ls 4 [(0, .ref ax), (1, .int rs.1), (2, .int l2), (3, .int rs.2)] → va_P (dC, dI) vwCl [(ax, .inr (2, [.ref axd, .int vxs])), (axd, .inl (cy, 8, .inl fxd))] H → va_D A [(ax, .inr (2, [.ref axd, .int vxs])), (axd, .inl (cy, 8, .inl fxd))] → va_S A s.heap H locs → W p l e (headSpec wsX2_risingPairs ({ frames := 0, cells := 0, slots := 0, locals := 0 })).room s m (([.ref ax] : List Value).toArray) below meth c H locs 0 0 (MQ below (va_Qi (fun (r : Int32) (_ : Unit) => r = res) (QW (dC, dI) cy A [(ax, .inr (2, [.ref axd, .int vxs])), (axd, .inl (cy, 8, .inl fxd))]) A) (([.ref ax] : List Value).toArray) s 0 0 A) (F0 m 48 ls [])) → W p l e (headSpec wsX2_risingPairs ({ frames := 0, cells := 0, slots := 0, locals := 0 })).room s m (([.ref ax] : List Value).toArray) below meth c H locs 0 0 (MQ below (va_Qi (fun (r : Int32) (_ : Unit) => r = res) (QW (dC, dI) cy A [(ax, .inr (2, [.ref axd, .int vxs])), (axd, .inl (cy, 8, .inl fxd))]) A) (([.ref ax] : List Value).toArray) s 0 0 A) (F0 m 16 ls []) := by
          intro n
          induction n with
          | zero =>
            intro l1 l2 l3 rs H locs ls h
            rw [fX2_risingPairs_L16_0] at h
            cases h
          | succ n ih =>
            intro l1 l2 l3 rs H locs ls h hl hP hD hS K
            rw [fX2_risingPairs_L16_s] at h
            refine lv_iload_n hx hb dX2_risingPairs_16 rfl (lv_at hl 3 rfl) ?_
            refine lv_aload_n hx hb dX2_risingPairs_17 rfl (lv_at hl 0 rfl) ?_
            refine va_get (D := (dC, dI)) (ci := 2) (v := .int vxs) (C := RX2) (T := TX2) (N := 2) hx hb hts hin_X2 hown hK hP 0 rfl rfl 1 (by decide) (hf_15) (fun _ h9 => h9) rfl dX2_risingPairs_18 ?_
            refine lv_icmp_ge (tgt := 48) hx hb dX2_risingPairs_21 (by decide) (fun c2 => ?_) (fun c2 => ?_)
            · rw [if_pos c2] at h
              have h0 := Option.some.inj h
              subst h0
              exact K H locs ls (lv_sub hl [0, 1, 2, 3] rfl) hP hD hS
            · rw [if_neg c2] at h
              refine lv_aload_n hx hb dX2_risingPairs_24 rfl (lv_at hl 0 rfl) ?_
              refine va_get (D := (dC, dI)) (ci := 2) (v := .ref axd) (C := RX2) (T := TX2) (N := 2) hx hb hts hin_X2 hown hK hP 0 rfl rfl 0 (by decide) (hf_9) (fun _ h9 => h9) rfl dX2_risingPairs_25 ?_
              refine lv_iload_n hx hb dX2_risingPairs_28 rfl (lv_at hl 2 rfl) ?_
              obtain ⟨hi, h⟩ := gin_some h
              refine va_iald hx hb hK hP 1 0 rfl rfl hi dX2_risingPairs_29 ?_
              refine lv_aload_n hx hb dX2_risingPairs_30 rfl (lv_at hl 0 rfl) ?_
              refine va_get (D := (dC, dI)) (ci := 2) (v := .ref axd) (C := RX2) (T := TX2) (N := 2) hx hb hts hin_X2 hown hK hP 0 rfl rfl 0 (by decide) (hf_9) (fun _ h9 => h9) rfl dX2_risingPairs_31 ?_
              refine lv_iload_n hx hb dX2_risingPairs_34 rfl (lv_at hl 3 rfl) ?_
              obtain ⟨hi, h⟩ := gin_some h
              refine va_iald hx hb hK hP 1 0 rfl rfl hi dX2_risingPairs_35 ?_
              refine lv_icmp_gt (tgt := 42) hx hb dX2_risingPairs_36 (by decide) (fun c1 => ?_) (fun c1 => ?_)
              · rw [if_pos c1] at h
                refine lv_iinc (v := l3 + (1 : Int32)) (lv' := [(3, .int (l3 + (1 : Int32))), (0, .ref ax), (1, .int l1), (2, .int l2)]) hx hb dX2_risingPairs_42 hl (k := 3) rfl rfl (by decide) rfl (fun ls hl => ?_)
                refine lv_goto (tgt := 16) hx hb dX2_risingPairs_45 (by decide) ?_
                exact ih l1 l2 (l3 + (1 : Int32)) rs H locs ls h (lv_sub hl [1, 2, 3, 0] rfl) hP hD hS K
              · rw [if_neg c1] at h
                refine lv_iinc (v := l1 + (1 : Int32)) (lv' := [(1, .int (l1 + (1 : Int32))), (0, .ref ax), (2, .int l2), (3, .int l3)]) hx hb dX2_risingPairs_39 hl (k := 1) rfl rfl (by decide) rfl (fun ls hl => ?_)
                refine lv_iinc (v := l3 + (1 : Int32)) (lv' := [(3, .int (l3 + (1 : Int32))), (1, .int (l1 + (1 : Int32))), (0, .ref ax), (2, .int l2)]) hx hb dX2_risingPairs_42 hl (k := 3) rfl rfl (by decide) rfl (fun ls hl => ?_)
                refine lv_goto (tgt := 16) hx hb dX2_risingPairs_45 (by decide) ?_
                exact ih (l1 + (1 : Int32)) l2 (l3 + (1 : Int32)) rs H locs ls h (lv_sub hl [2, 1, 3, 0] rfl) hP hD hS K
        obtain ⟨q4, hq4, h⟩ := bd_some h
        refine L16_2 FU l1 l2 (l2 + (1 : Int32)) q4 H locs ls hq4 (lv_sub hl [1, 2, 3, 0] rfl) hP hD hS (fun H locs ls hl hP hD hS => ?_)
        refine lv_iinc (v := l2 + (1 : Int32)) (lv' := [(2, .int (l2 + (1 : Int32))), (0, .ref ax), (1, .int q4.1), (3, .int q4.2)]) hx hb dX2_risingPairs_48 hl (k := 2) rfl rfl (by decide) rfl (fun ls hl => ?_)
        refine lv_goto (tgt := 4) hx hb dX2_risingPairs_51 (by decide) ?_
        exact ih q4.1 (l2 + (1 : Int32)) rs H locs ls h (lv_sub hl [1, 2, 0] rfl) hP hD hS K
  obtain ⟨q7, hq7, h⟩ := bd_some h
  refine L4_5 FU (0 : Int32) (0 : Int32) q7 H locs ls hq7 (lv_sub hl [2, 1, 0] rfl) hP hD hS (fun H locs ls hl hP hD hS => ?_)
  refine lv_iload_n hx hb dX2_risingPairs_54 rfl (lv_at hl 1 rfl) ?_
  have h0 := Option.some.inj h
  subst h0
  exact W.iret hx hb hr (fun t ht hW => ⟨⟨_, (), rfl, rfl, QW_mk hP hK hD ht hW⟩, hS.F ht⟩) hS.2.2 dX2_risingPairs_55

noncomputable def fX2_mirroredPlaces_L4 (n : Nat) (l1 : Int32) (l2 : Int32) (vxs : Int32) (fxd : Nat → Int32) : Option (Int32 × Int32) := match n with
  | 0 => none
  | n + 1 => if vxs ≤ l2 then (some (l1, l2)) else (gin l2 8 (gin ((vxs - (1 : Int32)) - l2) 8 (if (fxd l2.toNatClampNeg) = (fxd ((vxs - (1 : Int32)) - l2).toNatClampNeg) then (fX2_mirroredPlaces_L4 n (l1 + (1 : Int32)) (l2 + (1 : Int32)) vxs fxd) else (fX2_mirroredPlaces_L4 n l1 (l2 + (1 : Int32)) vxs fxd))))
theorem fX2_mirroredPlaces_L4_0 (l1 : Int32) (l2 : Int32) (vxs : Int32) (fxd : Nat → Int32) : fX2_mirroredPlaces_L4 0 l1 l2 vxs fxd = none := rfl
theorem fX2_mirroredPlaces_L4_s (n : Nat) (l1 : Int32) (l2 : Int32) (vxs : Int32) (fxd : Nat → Int32) : fX2_mirroredPlaces_L4 (n + 1) l1 l2 vxs fxd = if vxs ≤ l2 then (some (l1, l2)) else (gin l2 8 (gin ((vxs - (1 : Int32)) - l2) 8 (if (fxd l2.toNatClampNeg) = (fxd ((vxs - (1 : Int32)) - l2).toNatClampNeg) then (fX2_mirroredPlaces_L4 n (l1 + (1 : Int32)) (l2 + (1 : Int32)) vxs fxd) else (fX2_mirroredPlaces_L4 n l1 (l2 + (1 : Int32)) vxs fxd)))) := rfl
noncomputable def fX2_mirroredPlaces (vxs : Int32) (fxd : Nat → Int32)  : Option (Int32) := bd (fX2_mirroredPlaces_L4 FU (0 : Int32) (0 : Int32) vxs fxd) fun q4 => some q4.1
set_option maxHeartbeats 4000000 in
set_option maxRecDepth 100000 in
theorem c_X2_mirroredPlaces (l : Launch) (dC : Nat → ClassId) (dI : Nat → Nat → Nat) (cy : ClassId) (ax axd : Nat) (sz : Nat) (vxs : Int32) (fxd : Nat → Int32)  (res : Int32) (h : fX2_mirroredPlaces vxs fxd = some res) : Met l yX2_mirroredPlaces wsX2_mirroredPlaces ({ frames := 0, cells := 0, slots := 0, locals := 0 }) (va_Pc [.ref ax] (PW (dC, dI) cy sz [(ax, .inr (2, [.ref axd, .int vxs])), (axd, .inl (cy, 8, .inl fxd))])) (va_Qi (fun (r : Int32) (_ : Unit) => r = res) (QW (dC, dI) cy (va_A [(ax, .inr (2, [.ref axd, .int vxs])), (axd, .inl (cy, 8, .inl fxd))] sz) [(ax, .inr (2, [.ref axd, .int vxs])), (axd, .inl (cy, 8, .inl fxd))]) (va_A [(ax, .inr (2, [.ref axd, .int vxs])), (axd, .inl (cy, 8, .inl fxd))] sz)) 0 0 (va_A [(ax, .inr (2, [.ref axd, .int vxs])), (axd, .inl (cy, 8, .inl fxd))] sz) := by
  refine Met.ofW (cc := cX2_mirroredPlaces) (maxL := 3) (ret := (some .int)) (by decide) rfl ?_
  intro p e s m args below meth c s₁ B hml hv
  obtain ⟨rfl, hsz, hP, hK, hD0, hN⟩ := hv
  have hx := B.exec
  have hb := B.bytes
  have hr := B.returns
  have hts := atoms_spec (ws := wsX2_mirroredPlaces) B.pre
  have hown : s.vm.findClass RX2 = some m.cls := findClass_of_methodNamed B.named
  have hlocks := B.notSynchronized
  subst hsz
  have hD := hD0.self (sz := s.heap.size)
  clear hD0
  generalize hAe : va_A [(ax, .inr (2, [.ref axd, .int vxs])), (axd, .inl (cy, 8, .inl fxd))] s.heap.size = A at hD ⊢
  have hA : ∀ q : Nat, s.heap.size ≤ q → A q := fun q h => by rw [← hAe]; exact Or.inr h
  have hS : va_S A s.heap s.heap [] := va_S.rf
  have hl := lv_entry ([.ref ax]) (n := 3) (Nat.le_of_ble_eq_true rfl)
  rw [lg_entry_eq]
  generalize (lg_sl ([.ref ax]) ++ List.replicate (3 - (lg_sl ([.ref ax])).length) Slot.unset).toArray = ls at hl ⊢
  replace hl : lv_has ls 3 [(0, .ref ax)] := hl
  replace hP : va_P (dC, dI) vwCl [(ax, .inr (2, [.ref axd, .int vxs])), (axd, .inl (cy, 8, .inl fxd))] s.heap := hP
  obtain ⟨locs, hlocs⟩ : ∃ lc : List Loc, lc = [] := ⟨_, rfl⟩
  rw [← hlocs] at hS ⊢
  obtain ⟨H, hH⟩ : ∃ H : Heap, H = s.heap := ⟨_, rfl⟩
  have hP2 := hP; rw [← hH] at hP2
  have hS2 : va_S A s.heap H locs := by rw [hH]; exact hS
  suffices hgo : W p l e (headSpec wsX2_mirroredPlaces ({ frames := 0, cells := 0, slots := 0, locals := 0 })).room s m (([.ref ax] : List Value).toArray) below meth c H locs 0 0 (MQ below (va_Qi (fun (r : Int32) (_ : Unit) => r = res) (QW (dC, dI) cy A [(ax, .inr (2, [.ref axd, .int vxs])), (axd, .inl (cy, 8, .inl fxd))]) A) (([.ref ax] : List Value).toArray) s 0 0 A) (F0 m 0 ls []) by rw [hH] at hgo; exact hgo
  replace hP := hP2
  replace hS := hS2
  clear hP2 hS2
  have hin_X2 : ∀ w ∈ wsX20, w ∈ wsX2_mirroredPlaces := by decide +kernel
  have hf_9 := hts (.fieldLink RX2 9 "FewLooks$Row" "digits" "[I") (by decide +kernel)
  have hf_15 := hts (.fieldLink RX2 15 "FewLooks$Row" "size" "I") (by decide +kernel)
  unfold fX2_mirroredPlaces at h
  refine lv_iconst (v := (0 : Int32)) hx hb dX2_mirroredPlaces_0 (by decide) ?_
  refine lv_istore_n (lv' := [(1, .int (0 : Int32)), (0, .ref ax)]) hx hb dX2_mirroredPlaces_1 rfl hl (by decide) rfl (fun ls hl => ?_)
  refine lv_iconst (v := (0 : Int32)) hx hb dX2_mirroredPlaces_2 (by decide) ?_
  refine lv_istore_n (lv' := [(2, .int (0 : Int32)), (1, .int (0 : Int32)), (0, .ref ax)]) hx hb dX2_mirroredPlaces_3 rfl hl (by decide) rfl (fun ls hl => ?_)
  have L4_2 : ∀ (n : Nat) (l1 : Int32) (l2 : Int32) (rs : (Int32 × Int32)) (H : Heap) (locs : List Loc) (ls : Array Slot), fX2_mirroredPlaces_L4 n l1 l2 vxs fxd = some rs → lv_has ls 3 [(0, .ref ax), (1, .int l1), (2, .int l2)] → va_P (dC, dI) vwCl [(ax, .inr (2, [.ref axd, .int vxs])), (axd, .inl (cy, 8, .inl fxd))] H → va_D A [(ax, .inr (2, [.ref axd, .int vxs])), (axd, .inl (cy, 8, .inl fxd))] → va_S A s.heap H locs → (∀ (H : Heap) (locs : List Loc) (ls : Array Slot), lv_has ls 3 [(0, .ref ax), (1, .int rs.1), (2, .int rs.2)] → va_P (dC, dI) vwCl [(ax, .inr (2, [.ref axd, .int vxs])), (axd, .inl (cy, 8, .inl fxd))] H → va_D A [(ax, .inr (2, [.ref axd, .int vxs])), (axd, .inl (cy, 8, .inl fxd))] → va_S A s.heap H locs → W p l e (headSpec wsX2_mirroredPlaces ({ frames := 0, cells := 0, slots := 0, locals := 0 })).room s m (([.ref ax] : List Value).toArray) below meth c H locs 0 0 (MQ below (va_Qi (fun (r : Int32) (_ : Unit) => r = res) (QW (dC, dI) cy A [(ax, .inr (2, [.ref axd, .int vxs])), (axd, .inl (cy, 8, .inl fxd))]) A) (([.ref ax] : List Value).toArray) s 0 0 A) (F0 m 43 ls [])) → W p l e (headSpec wsX2_mirroredPlaces ({ frames := 0, cells := 0, slots := 0, locals := 0 })).room s m (([.ref ax] : List Value).toArray) below meth c H locs 0 0 (MQ below (va_Qi (fun (r : Int32) (_ : Unit) => r = res) (QW (dC, dI) cy A [(ax, .inr (2, [.ref axd, .int vxs])), (axd, .inl (cy, 8, .inl fxd))]) A) (([.ref ax] : List Value).toArray) s 0 0 A) (F0 m 4 ls []) := by
    intro n
    induction n with
    | zero =>
      intro l1 l2 rs H locs ls h
      rw [fX2_mirroredPlaces_L4_0] at h
      cases h
    | succ n ih =>
      intro l1 l2 rs H locs ls h hl hP hD hS K
      rw [fX2_mirroredPlaces_L4_s] at h
      refine lv_iload_n hx hb dX2_mirroredPlaces_4 rfl (lv_at hl 2 rfl) ?_
      refine lv_aload_n hx hb dX2_mirroredPlaces_5 rfl (lv_at hl 0 rfl) ?_
      refine va_get (D := (dC, dI)) (ci := 2) (v := .int vxs) (C := RX2) (T := TX2) (N := 2) hx hb hts hin_X2 hown hK hP 0 rfl rfl 1 (by decide) (hf_15) (fun _ h9 => h9) rfl dX2_mirroredPlaces_6 ?_
      refine lv_icmp_ge (tgt := 43) hx hb dX2_mirroredPlaces_9 (by decide) (fun c2 => ?_) (fun c2 => ?_)
      · rw [if_pos c2] at h
        have h0 := Option.some.inj h
        subst h0
        exact K H locs ls (lv_sub hl [0, 1, 2] rfl) hP hD hS
      · rw [if_neg c2] at h
        refine lv_aload_n hx hb dX2_mirroredPlaces_12 rfl (lv_at hl 0 rfl) ?_
        refine va_get (D := (dC, dI)) (ci := 2) (v := .ref axd) (C := RX2) (T := TX2) (N := 2) hx hb hts hin_X2 hown hK hP 0 rfl rfl 0 (by decide) (hf_9) (fun _ h9 => h9) rfl dX2_mirroredPlaces_13 ?_
        refine lv_iload_n hx hb dX2_mirroredPlaces_16 rfl (lv_at hl 2 rfl) ?_
        obtain ⟨hi, h⟩ := gin_some h
        refine va_iald hx hb hK hP 1 0 rfl rfl hi dX2_mirroredPlaces_17 ?_
        refine lv_aload_n hx hb dX2_mirroredPlaces_18 rfl (lv_at hl 0 rfl) ?_
        refine va_get (D := (dC, dI)) (ci := 2) (v := .ref axd) (C := RX2) (T := TX2) (N := 2) hx hb hts hin_X2 hown hK hP 0 rfl rfl 0 (by decide) (hf_9) (fun _ h9 => h9) rfl dX2_mirroredPlaces_19 ?_
        refine lv_aload_n hx hb dX2_mirroredPlaces_22 rfl (lv_at hl 0 rfl) ?_
        refine va_get (D := (dC, dI)) (ci := 2) (v := .int vxs) (C := RX2) (T := TX2) (N := 2) hx hb hts hin_X2 hown hK hP 0 rfl rfl 1 (by decide) (hf_15) (fun _ h9 => h9) rfl dX2_mirroredPlaces_23 ?_
        refine lv_iconst (v := (1 : Int32)) hx hb dX2_mirroredPlaces_26 (by decide) ?_
        refine lv_isub hx hb dX2_mirroredPlaces_27 ?_
        refine lv_iload_n hx hb dX2_mirroredPlaces_28 rfl (lv_at hl 2 rfl) ?_
        refine lv_isub hx hb dX2_mirroredPlaces_29 ?_
        obtain ⟨hi, h⟩ := gin_some h
        refine va_iald hx hb hK hP 1 0 rfl rfl hi dX2_mirroredPlaces_30 ?_
        refine lv_icmp_ne (tgt := 37) hx hb dX2_mirroredPlaces_31 (by decide) (fun c1 => ?_) (fun c1 => ?_)
        · rw [if_neg c1] at h
          refine lv_iinc (v := l2 + (1 : Int32)) (lv' := [(2, .int (l2 + (1 : Int32))), (0, .ref ax), (1, .int l1)]) hx hb dX2_mirroredPlaces_37 hl (k := 2) rfl rfl (by decide) rfl (fun ls hl => ?_)
          refine lv_goto (tgt := 4) hx hb dX2_mirroredPlaces_40 (by decide) ?_
          exact ih l1 (l2 + (1 : Int32)) rs H locs ls h (lv_sub hl [1, 2, 0] rfl) hP hD hS K
        · rw [if_pos c1] at h
          refine lv_iinc (v := l1 + (1 : Int32)) (lv' := [(1, .int (l1 + (1 : Int32))), (0, .ref ax), (2, .int l2)]) hx hb dX2_mirroredPlaces_34 hl (k := 1) rfl rfl (by decide) rfl (fun ls hl => ?_)
          refine lv_iinc (v := l2 + (1 : Int32)) (lv' := [(2, .int (l2 + (1 : Int32))), (1, .int (l1 + (1 : Int32))), (0, .ref ax)]) hx hb dX2_mirroredPlaces_37 hl (k := 2) rfl rfl (by decide) rfl (fun ls hl => ?_)
          refine lv_goto (tgt := 4) hx hb dX2_mirroredPlaces_40 (by decide) ?_
          exact ih (l1 + (1 : Int32)) (l2 + (1 : Int32)) rs H locs ls h (lv_sub hl [2, 1, 0] rfl) hP hD hS K
  obtain ⟨q4, hq4, h⟩ := bd_some h
  refine L4_2 FU (0 : Int32) (0 : Int32) q4 H locs ls hq4 (lv_sub hl [2, 1, 0] rfl) hP hD hS (fun H locs ls hl hP hD hS => ?_)
  refine lv_iload_n hx hb dX2_mirroredPlaces_43 rfl (lv_at hl 1 rfl) ?_
  have h0 := Option.some.inj h
  subst h0
  exact W.iret hx hb hr (fun t ht hW => ⟨⟨_, (), rfl, rfl, QW_mk hP hK hD ht hW⟩, hS.F ht⟩) hS.2.2 dX2_mirroredPlaces_44

noncomputable def fX2_alikeShifts_L14 (n : Nat) (l1 : Int32) (l2 : Int32) (l3 : Int32) (vxs : Int32) (fxd : Nat → Int32) : Option (Int32 × Int32) := match n with
  | 0 => none
  | n + 1 => if vxs ≤ l3 then (some (l1, l3)) else (if l2 = l3 then (fX2_alikeShifts_L14 n l1 l2 (l3 + (1 : Int32)) vxs fxd) else (gin l2 8 (gin l3 8 (if (fxd l2.toNatClampNeg) = (fxd l3.toNatClampNeg) then (fX2_alikeShifts_L14 n (l1 + (1 : Int32)) l2 (l3 + (1 : Int32)) vxs fxd) else (fX2_alikeShifts_L14 n l1 l2 (l3 + (1 : Int32)) vxs fxd)))))
theorem fX2_alikeShifts_L14_0 (l1 : Int32) (l2 : Int32) (l3 : Int32) (vxs : Int32) (fxd : Nat → Int32) : fX2_alikeShifts_L14 0 l1 l2 l3 vxs fxd = none := rfl
theorem fX2_alikeShifts_L14_s (n : Nat) (l1 : Int32) (l2 : Int32) (l3 : Int32) (vxs : Int32) (fxd : Nat → Int32) : fX2_alikeShifts_L14 (n + 1) l1 l2 l3 vxs fxd = if vxs ≤ l3 then (some (l1, l3)) else (if l2 = l3 then (fX2_alikeShifts_L14 n l1 l2 (l3 + (1 : Int32)) vxs fxd) else (gin l2 8 (gin l3 8 (if (fxd l2.toNatClampNeg) = (fxd l3.toNatClampNeg) then (fX2_alikeShifts_L14 n (l1 + (1 : Int32)) l2 (l3 + (1 : Int32)) vxs fxd) else (fX2_alikeShifts_L14 n l1 l2 (l3 + (1 : Int32)) vxs fxd))))) := rfl
noncomputable def fX2_alikeShifts_L4 (n : Nat) (l1 : Int32) (l2 : Int32) (vxs : Int32) (fxd : Nat → Int32) : Option (Int32 × Int32) := match n with
  | 0 => none
  | n + 1 => if vxs ≤ l2 then (some (l1, l2)) else (bd (fX2_alikeShifts_L14 FU l1 l2 (0 : Int32) vxs fxd) fun q5 => fX2_alikeShifts_L4 n q5.1 (l2 + (1 : Int32)) vxs fxd)
theorem fX2_alikeShifts_L4_0 (l1 : Int32) (l2 : Int32) (vxs : Int32) (fxd : Nat → Int32) : fX2_alikeShifts_L4 0 l1 l2 vxs fxd = none := rfl
theorem fX2_alikeShifts_L4_s (n : Nat) (l1 : Int32) (l2 : Int32) (vxs : Int32) (fxd : Nat → Int32) : fX2_alikeShifts_L4 (n + 1) l1 l2 vxs fxd = if vxs ≤ l2 then (some (l1, l2)) else (bd (fX2_alikeShifts_L14 FU l1 l2 (0 : Int32) vxs fxd) fun q5 => fX2_alikeShifts_L4 n q5.1 (l2 + (1 : Int32)) vxs fxd) := rfl
noncomputable def fX2_alikeShifts (vxs : Int32) (fxd : Nat → Int32)  : Option (Int32) := bd (fX2_alikeShifts_L4 FU (0 : Int32) (0 : Int32) vxs fxd) fun q8 => some q8.1
set_option maxHeartbeats 4000000 in
set_option maxRecDepth 100000 in
theorem c_X2_alikeShifts (l : Launch) (dC : Nat → ClassId) (dI : Nat → Nat → Nat) (cy : ClassId) (ax axd : Nat) (sz : Nat) (vxs : Int32) (fxd : Nat → Int32)  (res : Int32) (h : fX2_alikeShifts vxs fxd = some res) : Met l yX2_alikeShifts wsX2_alikeShifts ({ frames := 0, cells := 0, slots := 0, locals := 0 }) (va_Pc [.ref ax] (PW (dC, dI) cy sz [(ax, .inr (2, [.ref axd, .int vxs])), (axd, .inl (cy, 8, .inl fxd))])) (va_Qi (fun (r : Int32) (_ : Unit) => r = res) (QW (dC, dI) cy (va_A [(ax, .inr (2, [.ref axd, .int vxs])), (axd, .inl (cy, 8, .inl fxd))] sz) [(ax, .inr (2, [.ref axd, .int vxs])), (axd, .inl (cy, 8, .inl fxd))]) (va_A [(ax, .inr (2, [.ref axd, .int vxs])), (axd, .inl (cy, 8, .inl fxd))] sz)) 0 0 (va_A [(ax, .inr (2, [.ref axd, .int vxs])), (axd, .inl (cy, 8, .inl fxd))] sz) := by
  refine Met.ofW (cc := cX2_alikeShifts) (maxL := 4) (ret := (some .int)) (by decide) rfl ?_
  intro p e s m args below meth c s₁ B hml hv
  obtain ⟨rfl, hsz, hP, hK, hD0, hN⟩ := hv
  have hx := B.exec
  have hb := B.bytes
  have hr := B.returns
  have hts := atoms_spec (ws := wsX2_alikeShifts) B.pre
  have hown : s.vm.findClass RX2 = some m.cls := findClass_of_methodNamed B.named
  have hlocks := B.notSynchronized
  subst hsz
  have hD := hD0.self (sz := s.heap.size)
  clear hD0
  generalize hAe : va_A [(ax, .inr (2, [.ref axd, .int vxs])), (axd, .inl (cy, 8, .inl fxd))] s.heap.size = A at hD ⊢
  have hA : ∀ q : Nat, s.heap.size ≤ q → A q := fun q h => by rw [← hAe]; exact Or.inr h
  have hS : va_S A s.heap s.heap [] := va_S.rf
  have hl := lv_entry ([.ref ax]) (n := 4) (Nat.le_of_ble_eq_true rfl)
  rw [lg_entry_eq]
  generalize (lg_sl ([.ref ax]) ++ List.replicate (4 - (lg_sl ([.ref ax])).length) Slot.unset).toArray = ls at hl ⊢
  replace hl : lv_has ls 4 [(0, .ref ax)] := hl
  replace hP : va_P (dC, dI) vwCl [(ax, .inr (2, [.ref axd, .int vxs])), (axd, .inl (cy, 8, .inl fxd))] s.heap := hP
  obtain ⟨locs, hlocs⟩ : ∃ lc : List Loc, lc = [] := ⟨_, rfl⟩
  rw [← hlocs] at hS ⊢
  obtain ⟨H, hH⟩ : ∃ H : Heap, H = s.heap := ⟨_, rfl⟩
  have hP2 := hP; rw [← hH] at hP2
  have hS2 : va_S A s.heap H locs := by rw [hH]; exact hS
  suffices hgo : W p l e (headSpec wsX2_alikeShifts ({ frames := 0, cells := 0, slots := 0, locals := 0 })).room s m (([.ref ax] : List Value).toArray) below meth c H locs 0 0 (MQ below (va_Qi (fun (r : Int32) (_ : Unit) => r = res) (QW (dC, dI) cy A [(ax, .inr (2, [.ref axd, .int vxs])), (axd, .inl (cy, 8, .inl fxd))]) A) (([.ref ax] : List Value).toArray) s 0 0 A) (F0 m 0 ls []) by rw [hH] at hgo; exact hgo
  replace hP := hP2
  replace hS := hS2
  clear hP2 hS2
  have hin_X2 : ∀ w ∈ wsX20, w ∈ wsX2_alikeShifts := by decide +kernel
  have hf_9 := hts (.fieldLink RX2 9 "FewLooks$Row" "digits" "[I") (by decide +kernel)
  have hf_15 := hts (.fieldLink RX2 15 "FewLooks$Row" "size" "I") (by decide +kernel)
  unfold fX2_alikeShifts at h
  refine lv_iconst (v := (0 : Int32)) hx hb dX2_alikeShifts_0 (by decide) ?_
  refine lv_istore_n (lv' := [(1, .int (0 : Int32)), (0, .ref ax)]) hx hb dX2_alikeShifts_1 rfl hl (by decide) rfl (fun ls hl => ?_)
  refine lv_iconst (v := (0 : Int32)) hx hb dX2_alikeShifts_2 (by decide) ?_
  refine lv_istore_n (lv' := [(2, .int (0 : Int32)), (1, .int (0 : Int32)), (0, .ref ax)]) hx hb dX2_alikeShifts_3 rfl hl (by decide) rfl (fun ls hl => ?_)
  have L4_6 : ∀ (n : Nat) (l1 : Int32) (l2 : Int32) (rs : (Int32 × Int32)) (H : Heap) (locs : List Loc) (ls : Array Slot), fX2_alikeShifts_L4 n l1 l2 vxs fxd = some rs → lv_has ls 4 [(0, .ref ax), (1, .int l1), (2, .int l2)] → va_P (dC, dI) vwCl [(ax, .inr (2, [.ref axd, .int vxs])), (axd, .inl (cy, 8, .inl fxd))] H → va_D A [(ax, .inr (2, [.ref axd, .int vxs])), (axd, .inl (cy, 8, .inl fxd))] → va_S A s.heap H locs → (∀ (H : Heap) (locs : List Loc) (ls : Array Slot), lv_has ls 4 [(0, .ref ax), (1, .int rs.1), (2, .int rs.2)] → va_P (dC, dI) vwCl [(ax, .inr (2, [.ref axd, .int vxs])), (axd, .inl (cy, 8, .inl fxd))] H → va_D A [(ax, .inr (2, [.ref axd, .int vxs])), (axd, .inl (cy, 8, .inl fxd))] → va_S A s.heap H locs → W p l e (headSpec wsX2_alikeShifts ({ frames := 0, cells := 0, slots := 0, locals := 0 })).room s m (([.ref ax] : List Value).toArray) below meth c H locs 0 0 (MQ below (va_Qi (fun (r : Int32) (_ : Unit) => r = res) (QW (dC, dI) cy A [(ax, .inr (2, [.ref axd, .int vxs])), (axd, .inl (cy, 8, .inl fxd))]) A) (([.ref ax] : List Value).toArray) s 0 0 A) (F0 m 57 ls [])) → W p l e (headSpec wsX2_alikeShifts ({ frames := 0, cells := 0, slots := 0, locals := 0 })).room s m (([.ref ax] : List Value).toArray) below meth c H locs 0 0 (MQ below (va_Qi (fun (r : Int32) (_ : Unit) => r = res) (QW (dC, dI) cy A [(ax, .inr (2, [.ref axd, .int vxs])), (axd, .inl (cy, 8, .inl fxd))]) A) (([.ref ax] : List Value).toArray) s 0 0 A) (F0 m 4 ls []) := by
    intro n
    induction n with
    | zero =>
      intro l1 l2 rs H locs ls h
      rw [fX2_alikeShifts_L4_0] at h
      cases h
    | succ n ih =>
      intro l1 l2 rs H locs ls h hl hP hD hS K
      rw [fX2_alikeShifts_L4_s] at h
      refine lv_iload_n hx hb dX2_alikeShifts_4 rfl (lv_at hl 2 rfl) ?_
      refine lv_aload_n hx hb dX2_alikeShifts_5 rfl (lv_at hl 0 rfl) ?_
      refine va_get (D := (dC, dI)) (ci := 2) (v := .int vxs) (C := RX2) (T := TX2) (N := 2) hx hb hts hin_X2 hown hK hP 0 rfl rfl 1 (by decide) (hf_15) (fun _ h9 => h9) rfl dX2_alikeShifts_6 ?_
      refine lv_icmp_ge (tgt := 57) hx hb dX2_alikeShifts_9 (by decide) (fun c6 => ?_) (fun c6 => ?_)
      · rw [if_pos c6] at h
        have h0 := Option.some.inj h
        subst h0
        exact K H locs ls (lv_sub hl [0, 1, 2] rfl) hP hD hS
      · rw [if_neg c6] at h
        refine lv_iconst (v := (0 : Int32)) hx hb dX2_alikeShifts_12 (by decide) ?_
        refine lv_istore_n (lv' := [(3, .int (0 : Int32)), (0, .ref ax), (1, .int l1), (2, .int l2)]) hx hb dX2_alikeShifts_13 rfl hl (by decide) rfl (fun ls hl => ?_)
        have L14_3 : ∀ (n : Nat) (l1 : Int32) (l2 : Int32) (l3 : Int32) (rs : (Int32 × Int32)) (H : Heap) (locs : List Loc) (ls : Array Slot), fX2_alikeShifts_L14 n l1 l2 l3 vxs fxd = some rs → lv_has ls 4 [(0, .ref ax), (1, .int l1), (2, .int l2), (3, .int l3)] → va_P (dC, dI) vwCl [(ax, .inr (2, [.ref axd, .int vxs])), (axd, .inl (cy, 8, .inl fxd))] H → va_D A [(ax, .inr (2, [.ref axd, .int vxs])), (axd, .inl (cy, 8, .inl fxd))] → va_S A s.heap H locs → (∀ (H : Heap) (locs : List Loc) (ls : Array Slot), lv_has ls 4 [(0, .ref ax), (1, .int rs.1), (2, .int l2), (3, .int rs.2)] → va_P (dC, dI) vwCl [(ax, .inr (2, [.ref axd, .int vxs])), (axd, .inl (cy, 8, .inl fxd))] H → va_D A [(ax, .inr (2, [.ref axd, .int vxs])), (axd, .inl (cy, 8, .inl fxd))] → va_S A s.heap H locs → W p l e (headSpec wsX2_alikeShifts ({ frames := 0, cells := 0, slots := 0, locals := 0 })).room s m (([.ref ax] : List Value).toArray) below meth c H locs 0 0 (MQ below (va_Qi (fun (r : Int32) (_ : Unit) => r = res) (QW (dC, dI) cy A [(ax, .inr (2, [.ref axd, .int vxs])), (axd, .inl (cy, 8, .inl fxd))]) A) (([.ref ax] : List Value).toArray) s 0 0 A) (F0 m 51 ls [])) → W p l e (headSpec wsX2_alikeShifts ({ frames := 0, cells := 0, slots := 0, locals := 0 })).room s m (([.ref ax] : List Value).toArray) below meth c H locs 0 0 (MQ below (va_Qi (fun (r : Int32) (_ : Unit) => r = res) (QW (dC, dI) cy A [(ax, .inr (2, [.ref axd, .int vxs])), (axd, .inl (cy, 8, .inl fxd))]) A) (([.ref ax] : List Value).toArray) s 0 0 A) (F0 m 14 ls []) := by
          intro n
          induction n with
          | zero =>
            intro l1 l2 l3 rs H locs ls h
            rw [fX2_alikeShifts_L14_0] at h
            cases h
          | succ n ih =>
            intro l1 l2 l3 rs H locs ls h hl hP hD hS K
            rw [fX2_alikeShifts_L14_s] at h
            refine lv_iload_n hx hb dX2_alikeShifts_14 rfl (lv_at hl 3 rfl) ?_
            refine lv_aload_n hx hb dX2_alikeShifts_15 rfl (lv_at hl 0 rfl) ?_
            refine va_get (D := (dC, dI)) (ci := 2) (v := .int vxs) (C := RX2) (T := TX2) (N := 2) hx hb hts hin_X2 hown hK hP 0 rfl rfl 1 (by decide) (hf_15) (fun _ h9 => h9) rfl dX2_alikeShifts_16 ?_
            refine lv_icmp_ge (tgt := 51) hx hb dX2_alikeShifts_19 (by decide) (fun c3 => ?_) (fun c3 => ?_)
            · rw [if_pos c3] at h
              have h0 := Option.some.inj h
              subst h0
              exact K H locs ls (lv_sub hl [0, 1, 2, 3] rfl) hP hD hS
            · rw [if_neg c3] at h
              refine lv_iload_n hx hb dX2_alikeShifts_22 rfl (lv_at hl 2 rfl) ?_
              refine lv_iload_n hx hb dX2_alikeShifts_23 rfl (lv_at hl 3 rfl) ?_
              refine lv_icmp_eq (tgt := 45) hx hb dX2_alikeShifts_24 (by decide) (fun c2 => ?_) (fun c2 => ?_)
              · rw [if_pos c2] at h
                refine lv_iinc (v := l3 + (1 : Int32)) (lv' := [(3, .int (l3 + (1 : Int32))), (0, .ref ax), (1, .int l1), (2, .int l2)]) hx hb dX2_alikeShifts_45 hl (k := 3) rfl rfl (by decide) rfl (fun ls hl => ?_)
                refine lv_goto (tgt := 14) hx hb dX2_alikeShifts_48 (by decide) ?_
                exact ih l1 l2 (l3 + (1 : Int32)) rs H locs ls h (lv_sub hl [1, 2, 3, 0] rfl) hP hD hS K
              · rw [if_neg c2] at h
                refine lv_aload_n hx hb dX2_alikeShifts_27 rfl (lv_at hl 0 rfl) ?_
                refine va_get (D := (dC, dI)) (ci := 2) (v := .ref axd) (C := RX2) (T := TX2) (N := 2) hx hb hts hin_X2 hown hK hP 0 rfl rfl 0 (by decide) (hf_9) (fun _ h9 => h9) rfl dX2_alikeShifts_28 ?_
                refine lv_iload_n hx hb dX2_alikeShifts_31 rfl (lv_at hl 2 rfl) ?_
                obtain ⟨hi, h⟩ := gin_some h
                refine va_iald hx hb hK hP 1 0 rfl rfl hi dX2_alikeShifts_32 ?_
                refine lv_aload_n hx hb dX2_alikeShifts_33 rfl (lv_at hl 0 rfl) ?_
                refine va_get (D := (dC, dI)) (ci := 2) (v := .ref axd) (C := RX2) (T := TX2) (N := 2) hx hb hts hin_X2 hown hK hP 0 rfl rfl 0 (by decide) (hf_9) (fun _ h9 => h9) rfl dX2_alikeShifts_34 ?_
                refine lv_iload_n hx hb dX2_alikeShifts_37 rfl (lv_at hl 3 rfl) ?_
                obtain ⟨hi, h⟩ := gin_some h
                refine va_iald hx hb hK hP 1 0 rfl rfl hi dX2_alikeShifts_38 ?_
                refine lv_icmp_ne (tgt := 45) hx hb dX2_alikeShifts_39 (by decide) (fun c1 => ?_) (fun c1 => ?_)
                · rw [if_neg c1] at h
                  refine lv_iinc (v := l3 + (1 : Int32)) (lv' := [(3, .int (l3 + (1 : Int32))), (0, .ref ax), (1, .int l1), (2, .int l2)]) hx hb dX2_alikeShifts_45 hl (k := 3) rfl rfl (by decide) rfl (fun ls hl => ?_)
                  refine lv_goto (tgt := 14) hx hb dX2_alikeShifts_48 (by decide) ?_
                  exact ih l1 l2 (l3 + (1 : Int32)) rs H locs ls h (lv_sub hl [1, 2, 3, 0] rfl) hP hD hS K
                · rw [if_pos c1] at h
                  refine lv_iinc (v := l1 + (1 : Int32)) (lv' := [(1, .int (l1 + (1 : Int32))), (0, .ref ax), (2, .int l2), (3, .int l3)]) hx hb dX2_alikeShifts_42 hl (k := 1) rfl rfl (by decide) rfl (fun ls hl => ?_)
                  refine lv_iinc (v := l3 + (1 : Int32)) (lv' := [(3, .int (l3 + (1 : Int32))), (1, .int (l1 + (1 : Int32))), (0, .ref ax), (2, .int l2)]) hx hb dX2_alikeShifts_45 hl (k := 3) rfl rfl (by decide) rfl (fun ls hl => ?_)
                  refine lv_goto (tgt := 14) hx hb dX2_alikeShifts_48 (by decide) ?_
                  exact ih (l1 + (1 : Int32)) l2 (l3 + (1 : Int32)) rs H locs ls h (lv_sub hl [2, 1, 3, 0] rfl) hP hD hS K
        obtain ⟨q5, hq5, h⟩ := bd_some h
        refine L14_3 FU l1 l2 (0 : Int32) q5 H locs ls hq5 (lv_sub hl [1, 2, 3, 0] rfl) hP hD hS (fun H locs ls hl hP hD hS => ?_)
        refine lv_iinc (v := l2 + (1 : Int32)) (lv' := [(2, .int (l2 + (1 : Int32))), (0, .ref ax), (1, .int q5.1), (3, .int q5.2)]) hx hb dX2_alikeShifts_51 hl (k := 2) rfl rfl (by decide) rfl (fun ls hl => ?_)
        refine lv_goto (tgt := 4) hx hb dX2_alikeShifts_54 (by decide) ?_
        exact ih q5.1 (l2 + (1 : Int32)) rs H locs ls h (lv_sub hl [1, 2, 0] rfl) hP hD hS K
  obtain ⟨q8, hq8, h⟩ := bd_some h
  refine L4_6 FU (0 : Int32) (0 : Int32) q8 H locs ls hq8 (lv_sub hl [2, 1, 0] rfl) hP hD hS (fun H locs ls hl hP hD hS => ?_)
  refine lv_iload_n hx hb dX2_alikeShifts_57 rfl (lv_at hl 1 rfl) ?_
  have h0 := Option.some.inj h
  subst h0
  exact W.iret hx hb hr (fun t ht hW => ⟨⟨_, (), rfl, rfl, QW_mk hP hK hD ht hW⟩, hS.F ht⟩) hS.2.2 dX2_alikeShifts_58

noncomputable def fX2_passing (vxs : Int32) (fxd : Nat → Int32) (p0 : Int32) : Option (Int32) := if p0 = (0 : Int32) then (bd (fX2_risingPairs vxs fxd) fun r2 => some r2) else (if p0 = (1 : Int32) then (bd (fX2_mirroredPlaces vxs fxd) fun r4 => some r4) else (if p0 = (2 : Int32) then (bd (fX2_total vxs fxd) fun r6 => if (r6 - r6 / (2 : Int32) * (2 : Int32)) = 0 then (some (1 : Int32)) else (some (0 : Int32))) else (bd (fX2_alikeShifts vxs fxd) fun r8 => some r8)))
set_option maxHeartbeats 4000000 in
set_option maxRecDepth 100000 in
theorem c_X2_passing (l : Launch) (dC : Nat → ClassId) (dI : Nat → Nat → Nat) (cy : ClassId) (ax axd : Nat) (sz : Nat) (vxs : Int32) (fxd : Nat → Int32) (p0 : Int32) (res : Int32) (h : fX2_passing vxs fxd p0 = some res) : Met l yX2_passing wsX2_passing ({ frames := 1, cells := 0, slots := 0, locals := 23 }) (va_Pc [.ref ax, .int p0] (PW (dC, dI) cy sz [(ax, .inr (2, [.ref axd, .int vxs])), (axd, .inl (cy, 8, .inl fxd))])) (va_Qi (fun (r : Int32) (_ : Unit) => r = res) (QW (dC, dI) cy (va_A [(ax, .inr (2, [.ref axd, .int vxs])), (axd, .inl (cy, 8, .inl fxd))] sz) [(ax, .inr (2, [.ref axd, .int vxs])), (axd, .inl (cy, 8, .inl fxd))]) (va_A [(ax, .inr (2, [.ref axd, .int vxs])), (axd, .inl (cy, 8, .inl fxd))] sz)) 0 0 (va_A [(ax, .inr (2, [.ref axd, .int vxs])), (axd, .inl (cy, 8, .inl fxd))] sz) := by
  refine Met.ofW (cc := cX2_passing) (maxL := 2) (ret := (some .int)) (by decide) rfl ?_
  intro p e s m args below meth c s₁ B hml hv
  obtain ⟨rfl, hsz, hP, hK, hD0, hN⟩ := hv
  have hx := B.exec
  have hb := B.bytes
  have hr := B.returns
  have hts := atoms_spec (ws := wsX2_passing) B.pre
  have hown : s.vm.findClass RX2 = some m.cls := findClass_of_methodNamed B.named
  have hlocks := B.notSynchronized
  subst hsz
  have hD := hD0.self (sz := s.heap.size)
  clear hD0
  generalize hAe : va_A [(ax, .inr (2, [.ref axd, .int vxs])), (axd, .inl (cy, 8, .inl fxd))] s.heap.size = A at hD ⊢
  have hA : ∀ q : Nat, s.heap.size ≤ q → A q := fun q h => by rw [← hAe]; exact Or.inr h
  have hS : va_S A s.heap s.heap [] := va_S.rf
  have hl := lv_entry ([.ref ax, .int p0]) (n := 2) (Nat.le_of_ble_eq_true rfl)
  rw [lg_entry_eq]
  generalize (lg_sl ([.ref ax, .int p0]) ++ List.replicate (2 - (lg_sl ([.ref ax, .int p0])).length) Slot.unset).toArray = ls at hl ⊢
  replace hl : lv_has ls 2 [(0, .ref ax), (1, .int p0)] := hl
  replace hP : va_P (dC, dI) vwCl [(ax, .inr (2, [.ref axd, .int vxs])), (axd, .inl (cy, 8, .inl fxd))] s.heap := hP
  obtain ⟨locs, hlocs⟩ : ∃ lc : List Loc, lc = [] := ⟨_, rfl⟩
  rw [← hlocs] at hS ⊢
  obtain ⟨H, hH⟩ : ∃ H : Heap, H = s.heap := ⟨_, rfl⟩
  have hP2 := hP; rw [← hH] at hP2
  have hS2 : va_S A s.heap H locs := by rw [hH]; exact hS
  suffices hgo : W p l e (headSpec wsX2_passing ({ frames := 1, cells := 0, slots := 0, locals := 23 })).room s m (([.ref ax, .int p0] : List Value).toArray) below meth c H locs 0 0 (MQ below (va_Qi (fun (r : Int32) (_ : Unit) => r = res) (QW (dC, dI) cy A [(ax, .inr (2, [.ref axd, .int vxs])), (axd, .inl (cy, 8, .inl fxd))]) A) (([.ref ax, .int p0] : List Value).toArray) s 0 0 A) (F0 m 0 ls []) by rw [hH] at hgo; exact hgo
  replace hP := hP2
  replace hS := hS2
  clear hP2 hS2
  unfold fX2_passing at h
  refine lv_iload_n hx hb dX2_passing_0 rfl (lv_at hl 1 rfl) ?_
  by_cases c1 : p0 = (0 : Int32)
  · rw [if_pos c1] at h
    have ec1 : (p0).toInt = 0 := by rw [c1]; rfl
    refine lv_tableIn (tgt := 28) hx hb dX2_passing_1 (by rw [ec1]; decide) (by rw [ec1]; decide) (by rw [ec1]; rfl) (by decide) ?_
    refine lv_aload_n hx hb dX2_passing_28 rfl (lv_at hl 0 rfl) ?_
    obtain ⟨r2, hr2, h⟩ := bd_some h
    have hFc := va_free (wc := [(ax, .inr (2, [.ref axd, .int vxs])), (axd, .inl (cy, 8, .inl fxd))]) hD hS hA [0, 1] rfl
    refine va_calli (va_runV (As := []) (rest := []) ⟨hx, hb, hml, hown, hts⟩ (c_X2_risingPairs l dC dI cy ax axd H.size vxs fxd  r2 hr2) (cwV 0 hts gX2_passing_X2_risingPairs rfl rfl rfl (by decide +kernel) ⟨Nat.le_of_ble_eq_true rfl, Nat.le_of_ble_eq_true rfl⟩) ⟨PW_fb, va_recv hK hP (ci := 2) (q0 := 0) rfl rfl, PW_pre (hP.sub (ws' := [(ax, .inr (2, [.ref axd, .int vxs])), (axd, .inl (cy, 8, .inl fxd))]) [0, 1] rfl) hK (hD.sub [0, 1] (by decide) rfl) hN⟩ rfl rfl hl.1 rfl (lv_room (Nat.le_of_ble_eq_true rfl)) dX2_passing_29 ⟨Nat.zero_le _, Nat.zero_le _⟩) hS (fun q _ h => hFc q h) hFc (fun rz u t H locs ht hvm hw hB hz1 hk1 hS => ?_)
    obtain ⟨hP, hD⟩ := jn (wr := []) (w1 := [(ax, .inr (2, [.ref axd, .int vxs])), (axd, .inl (cy, 8, .inl fxd))]) (ws' := [(ax, .inr (2, [.ref axd, .int vxs])), (axd, .inl (cy, 8, .inl fxd))]) hP hD [0, 1] [] rfl rfl (by decide) (by decide) hk1 hFc hB ht [0, 1] rfl (by decide) rfl
    replace hw := hw.symm
    subst hw
    clear hFc hB hk1 hz1 hvm
    have h0 := Option.some.inj h
    subst h0
    exact W.iret hx hb hr (fun t ht hW => ⟨⟨_, (), rfl, rfl, QW_mk hP hK hD ht hW⟩, hS.F ht⟩) hS.2.2 dX2_passing_32
  · rw [if_neg c1] at h
    by_cases c3 : p0 = (1 : Int32)
    · rw [if_pos c3] at h
      have ec3 : (p0).toInt = 1 := by rw [c3]; rfl
      refine lv_tableIn (tgt := 33) hx hb dX2_passing_1 (by rw [ec3]; decide) (by rw [ec3]; decide) (by rw [ec3]; rfl) (by decide) ?_
      refine lv_aload_n hx hb dX2_passing_33 rfl (lv_at hl 0 rfl) ?_
      obtain ⟨r4, hr4, h⟩ := bd_some h
      have hFc := va_free (wc := [(ax, .inr (2, [.ref axd, .int vxs])), (axd, .inl (cy, 8, .inl fxd))]) hD hS hA [0, 1] rfl
      refine va_calli (va_runV (As := []) (rest := []) ⟨hx, hb, hml, hown, hts⟩ (c_X2_mirroredPlaces l dC dI cy ax axd H.size vxs fxd  r4 hr4) (cwV 0 hts gX2_passing_X2_mirroredPlaces rfl rfl rfl (by decide +kernel) ⟨Nat.le_of_ble_eq_true rfl, Nat.le_of_ble_eq_true rfl⟩) ⟨PW_fb, va_recv hK hP (ci := 2) (q0 := 0) rfl rfl, PW_pre (hP.sub (ws' := [(ax, .inr (2, [.ref axd, .int vxs])), (axd, .inl (cy, 8, .inl fxd))]) [0, 1] rfl) hK (hD.sub [0, 1] (by decide) rfl) hN⟩ rfl rfl hl.1 rfl (lv_room (Nat.le_of_ble_eq_true rfl)) dX2_passing_34 ⟨Nat.zero_le _, Nat.zero_le _⟩) hS (fun q _ h => hFc q h) hFc (fun rz u t H locs ht hvm hw hB hz1 hk1 hS => ?_)
      obtain ⟨hP, hD⟩ := jn (wr := []) (w1 := [(ax, .inr (2, [.ref axd, .int vxs])), (axd, .inl (cy, 8, .inl fxd))]) (ws' := [(ax, .inr (2, [.ref axd, .int vxs])), (axd, .inl (cy, 8, .inl fxd))]) hP hD [0, 1] [] rfl rfl (by decide) (by decide) hk1 hFc hB ht [0, 1] rfl (by decide) rfl
      replace hw := hw.symm
      subst hw
      clear hFc hB hk1 hz1 hvm
      have h0 := Option.some.inj h
      subst h0
      exact W.iret hx hb hr (fun t ht hW => ⟨⟨_, (), rfl, rfl, QW_mk hP hK hD ht hW⟩, hS.F ht⟩) hS.2.2 dX2_passing_37
    · rw [if_neg c3] at h
      by_cases c5 : p0 = (2 : Int32)
      · rw [if_pos c5] at h
        have ec5 : (p0).toInt = 2 := by rw [c5]; rfl
        refine lv_tableIn (tgt := 38) hx hb dX2_passing_1 (by rw [ec5]; decide) (by rw [ec5]; decide) (by rw [ec5]; rfl) (by decide) ?_
        refine lv_aload_n hx hb dX2_passing_38 rfl (lv_at hl 0 rfl) ?_
        obtain ⟨r6, hr6, h⟩ := bd_some h
        have hFc := va_free (wc := [(ax, .inr (2, [.ref axd, .int vxs])), (axd, .inl (cy, 8, .inl fxd))]) hD hS hA [0, 1] rfl
        refine va_calli (va_runV (As := []) (rest := []) ⟨hx, hb, hml, hown, hts⟩ (c_X2_total l dC dI cy ax axd H.size vxs fxd  r6 hr6) (cwV 0 hts gX2_passing_X2_total rfl rfl rfl (by decide +kernel) ⟨Nat.le_of_ble_eq_true rfl, Nat.le_of_ble_eq_true rfl⟩) ⟨PW_fb, va_recv hK hP (ci := 2) (q0 := 0) rfl rfl, PW_pre (hP.sub (ws' := [(ax, .inr (2, [.ref axd, .int vxs])), (axd, .inl (cy, 8, .inl fxd))]) [0, 1] rfl) hK (hD.sub [0, 1] (by decide) rfl) hN⟩ rfl rfl hl.1 rfl (lv_room (Nat.le_of_ble_eq_true rfl)) dX2_passing_39 ⟨Nat.zero_le _, Nat.zero_le _⟩) hS (fun q _ h => hFc q h) hFc (fun rz u t H locs ht hvm hw hB hz1 hk1 hS => ?_)
        obtain ⟨hP, hD⟩ := jn (wr := []) (w1 := [(ax, .inr (2, [.ref axd, .int vxs])), (axd, .inl (cy, 8, .inl fxd))]) (ws' := [(ax, .inr (2, [.ref axd, .int vxs])), (axd, .inl (cy, 8, .inl fxd))]) hP hD [0, 1] [] rfl rfl (by decide) (by decide) hk1 hFc hB ht [0, 1] rfl (by decide) rfl
        replace hw := hw.symm
        subst hw
        clear hFc hB hk1 hz1 hvm
        refine lv_iconst (v := (2 : Int32)) hx hb dX2_passing_42 (by decide) ?_
        refine lv_irem hx hb dX2_passing_43 (by decide) ?_
        refine lv_if_ne (tgt := 51) hx hb dX2_passing_44 (by decide) (fun c7 => ?_) (fun c7 => ?_)
        · rw [if_neg c7] at h
          refine lv_iconst (v := (0 : Int32)) hx hb dX2_passing_51 (by decide) ?_
          have h0 := Option.some.inj h
          subst h0
          exact W.iret hx hb hr (fun t ht hW => ⟨⟨_, (), rfl, rfl, QW_mk hP hK hD ht hW⟩, hS.F ht⟩) hS.2.2 dX2_passing_52
        · rw [if_pos c7] at h
          refine lv_iconst (v := (1 : Int32)) hx hb dX2_passing_47 (by decide) ?_
          refine lv_goto (tgt := 52) hx hb dX2_passing_48 (by decide) ?_
          have h0 := Option.some.inj h
          subst h0
          exact W.iret hx hb hr (fun t ht hW => ⟨⟨_, (), rfl, rfl, QW_mk hP hK hD ht hW⟩, hS.F ht⟩) hS.2.2 dX2_passing_52
      · rw [if_neg c5] at h
        have hout := tb_out (x := p0) (n := 3) (by decide) (fun k hk => by rcases (show k = 0 ∨ k = 1 ∨ k = 2 by omega) with rfl | rfl | rfl; all_goals assumption)
        refine lv_tableOut (tgt := 53) hx hb dX2_passing_1 hout (by decide) ?_
        refine lv_aload_n hx hb dX2_passing_53 rfl (lv_at hl 0 rfl) ?_
        obtain ⟨r8, hr8, h⟩ := bd_some h
        have hFc := va_free (wc := [(ax, .inr (2, [.ref axd, .int vxs])), (axd, .inl (cy, 8, .inl fxd))]) hD hS hA [0, 1] rfl
        refine va_calli (va_runV (As := []) (rest := []) ⟨hx, hb, hml, hown, hts⟩ (c_X2_alikeShifts l dC dI cy ax axd H.size vxs fxd  r8 hr8) (cwV 0 hts gX2_passing_X2_alikeShifts rfl rfl rfl (by decide +kernel) ⟨Nat.le_of_ble_eq_true rfl, Nat.le_of_ble_eq_true rfl⟩) ⟨PW_fb, va_recv hK hP (ci := 2) (q0 := 0) rfl rfl, PW_pre (hP.sub (ws' := [(ax, .inr (2, [.ref axd, .int vxs])), (axd, .inl (cy, 8, .inl fxd))]) [0, 1] rfl) hK (hD.sub [0, 1] (by decide) rfl) hN⟩ rfl rfl hl.1 rfl (lv_room (Nat.le_of_ble_eq_true rfl)) dX2_passing_54 ⟨Nat.zero_le _, Nat.zero_le _⟩) hS (fun q _ h => hFc q h) hFc (fun rz u t H locs ht hvm hw hB hz1 hk1 hS => ?_)
        obtain ⟨hP, hD⟩ := jn (wr := []) (w1 := [(ax, .inr (2, [.ref axd, .int vxs])), (axd, .inl (cy, 8, .inl fxd))]) (ws' := [(ax, .inr (2, [.ref axd, .int vxs])), (axd, .inl (cy, 8, .inl fxd))]) hP hD [0, 1] [] rfl rfl (by decide) (by decide) hk1 hFc hB ht [0, 1] rfl (by decide) rfl
        replace hw := hw.symm
        subst hw
        clear hFc hB hk1 hz1 hvm
        have h0 := Option.some.inj h
        subst h0
        exact W.iret hx hb hr (fun t ht hW => ⟨⟨_, (), rfl, rfl, QW_mk hP hK hD ht hW⟩, hS.F ht⟩) hS.2.2 dX2_passing_57
