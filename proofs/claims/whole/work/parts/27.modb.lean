noncomputable def fX5_tableFar_L4 (n : Nat) (l1 : Int32) (l2 : Int32) (l3 : Int32) (fxb : Nat → Int32) : Option (Int32 × Int32) := match n with
  | 0 => none
  | n + 1 => if (8 : Int32) ≤ l3 then (some (l2, l3)) else (gin l3 8 (bd (fX5_parity l1 l3) fun r1 => if (fxb l3.toNatClampNeg) = r1 then (fX5_tableFar_L4 n l1 (l2 + (0 : Int32)) (l3 + (1 : Int32)) fxb) else (fX5_tableFar_L4 n l1 (l2 + (1 : Int32)) (l3 + (1 : Int32)) fxb)))
theorem fX5_tableFar_L4_0 (l1 : Int32) (l2 : Int32) (l3 : Int32) (fxb : Nat → Int32) : fX5_tableFar_L4 0 l1 l2 l3 fxb = none := rfl
theorem fX5_tableFar_L4_s (n : Nat) (l1 : Int32) (l2 : Int32) (l3 : Int32) (fxb : Nat → Int32) : fX5_tableFar_L4 (n + 1) l1 l2 l3 fxb = if (8 : Int32) ≤ l3 then (some (l2, l3)) else (gin l3 8 (bd (fX5_parity l1 l3) fun r1 => if (fxb l3.toNatClampNeg) = r1 then (fX5_tableFar_L4 n l1 (l2 + (0 : Int32)) (l3 + (1 : Int32)) fxb) else (fX5_tableFar_L4 n l1 (l2 + (1 : Int32)) (l3 + (1 : Int32)) fxb))) := rfl
noncomputable def fX5_tableFar (fxb : Nat → Int32) (p0 : Int32) : Option (Int32) := bd (fX5_tableFar_L4 FU p0 (0 : Int32) (0 : Int32) fxb) fun q5 => some q5.1
set_option maxHeartbeats 4000000 in
set_option maxRecDepth 100000 in
theorem c_X5_tableFar (l : Launch) (dC : Nat → ClassId) (dI : Nat → Nat → Nat) (cy : ClassId) (ax axr axb axj axi axu : Nat) (sz : Nat) (vxn : Int32) (vxk : Int32) (vxA : Int64) (vxB : Int64) (vxC : Int64) (vxE : Int64) (fxb : Nat → Int32) (p0 : Int32) (res : Int32) (h : fX5_tableFar fxb p0 = some res) : Met l yX5_tableFar wsX5_tableFar ({ frames := 2, cells := 0, slots := 0, locals := 43 }) (va_Pc [.ref ax, .int p0] (PW (dC, dI) cy sz [(ax, .inr (5, [.int vxn, .ref axr, .ref axb, .ref axj, .int vxk, .ref axi, .ref axu, .long vxA, .long vxB, .long vxC, .long vxE])), (axb, .inl (cy, 8, .inl fxb))])) (va_Qi (fun (r : Int32) (_ : Unit) => r = res) (QW (dC, dI) cy (va_A [(ax, .inr (5, [.int vxn, .ref axr, .ref axb, .ref axj, .int vxk, .ref axi, .ref axu, .long vxA, .long vxB, .long vxC, .long vxE])), (axb, .inl (cy, 8, .inl fxb))] sz) [(ax, .inr (5, [.int vxn, .ref axr, .ref axb, .ref axj, .int vxk, .ref axi, .ref axu, .long vxA, .long vxB, .long vxC, .long vxE])), (axb, .inl (cy, 8, .inl fxb))]) (va_A [(ax, .inr (5, [.int vxn, .ref axr, .ref axb, .ref axj, .int vxk, .ref axi, .ref axu, .long vxA, .long vxB, .long vxC, .long vxE])), (axb, .inl (cy, 8, .inl fxb))] sz)) 0 0 (va_A [(ax, .inr (5, [.int vxn, .ref axr, .ref axb, .ref axj, .int vxk, .ref axi, .ref axu, .long vxA, .long vxB, .long vxC, .long vxE])), (axb, .inl (cy, 8, .inl fxb))] sz) := by
  refine Met.ofW (cc := cX5_tableFar) (maxL := 4) (ret := (some .int)) (by decide) rfl ?_
  intro p e s m args below meth c s₁ B hml hv
  obtain ⟨rfl, hsz, hP, hK, hD0, hN⟩ := hv
  have hx := B.exec
  have hb := B.bytes
  have hr := B.returns
  have hts := atoms_spec (ws := wsX5_tableFar) B.pre
  have hown : s.vm.findClass RX5 = some m.cls := findClass_of_methodNamed B.named
  have hlocks := B.notSynchronized
  subst hsz
  have hD := hD0.self (sz := s.heap.size)
  clear hD0
  generalize hAe : va_A [(ax, .inr (5, [.int vxn, .ref axr, .ref axb, .ref axj, .int vxk, .ref axi, .ref axu, .long vxA, .long vxB, .long vxC, .long vxE])), (axb, .inl (cy, 8, .inl fxb))] s.heap.size = A at hD ⊢
  have hA : ∀ q : Nat, s.heap.size ≤ q → A q := fun q h => by rw [← hAe]; exact Or.inr h
  have hS : va_S A s.heap s.heap [] := va_S.rf
  have hl := lv_entry ([.ref ax, .int p0]) (n := 4) (Nat.le_of_ble_eq_true rfl)
  rw [lg_entry_eq]
  generalize (lg_sl ([.ref ax, .int p0]) ++ List.replicate (4 - (lg_sl ([.ref ax, .int p0])).length) Slot.unset).toArray = ls at hl ⊢
  replace hl : lv_has ls 4 [(0, .ref ax), (1, .int p0)] := hl
  replace hP : va_P (dC, dI) vwCl [(ax, .inr (5, [.int vxn, .ref axr, .ref axb, .ref axj, .int vxk, .ref axi, .ref axu, .long vxA, .long vxB, .long vxC, .long vxE])), (axb, .inl (cy, 8, .inl fxb))] s.heap := hP
  obtain ⟨locs, hlocs⟩ : ∃ lc : List Loc, lc = [] := ⟨_, rfl⟩
  rw [← hlocs] at hS ⊢
  obtain ⟨H, hH⟩ : ∃ H : Heap, H = s.heap := ⟨_, rfl⟩
  have hP2 := hP; rw [← hH] at hP2
  have hS2 : va_S A s.heap H locs := by rw [hH]; exact hS
  suffices hgo : W p l e (headSpec wsX5_tableFar ({ frames := 2, cells := 0, slots := 0, locals := 43 })).room s m (([.ref ax, .int p0] : List Value).toArray) below meth c H locs 0 0 (MQ below (va_Qi (fun (r : Int32) (_ : Unit) => r = res) (QW (dC, dI) cy A [(ax, .inr (5, [.int vxn, .ref axr, .ref axb, .ref axj, .int vxk, .ref axi, .ref axu, .long vxA, .long vxB, .long vxC, .long vxE])), (axb, .inl (cy, 8, .inl fxb))]) A) (([.ref ax, .int p0] : List Value).toArray) s 0 0 A) (F0 m 0 ls []) by rw [hH] at hgo; exact hgo
  replace hP := hP2
  replace hS := hS2
  clear hP2 hS2
  have hin_X5 : ∀ w ∈ wsX50, w ∈ wsX5_tableFar := by decide +kernel
  have hf_17 := hts (.fieldLink RX5 17 "FewLooksModel" "table" "[I") (by decide +kernel)
  unfold fX5_tableFar at h
  refine lv_iconst (v := (0 : Int32)) hx hb dX5_tableFar_0 (by decide) ?_
  refine lv_istore_n (lv' := [(2, .int (0 : Int32)), (0, .ref ax), (1, .int p0)]) hx hb dX5_tableFar_1 rfl hl (by decide) rfl (fun ls hl => ?_)
  refine lv_iconst (v := (0 : Int32)) hx hb dX5_tableFar_2 (by decide) ?_
  refine lv_istore_n (lv' := [(3, .int (0 : Int32)), (2, .int (0 : Int32)), (0, .ref ax), (1, .int p0)]) hx hb dX5_tableFar_3 rfl hl (by decide) rfl (fun ls hl => ?_)
  have L4_3 : ∀ (n : Nat) (l1 : Int32) (l2 : Int32) (l3 : Int32) (rs : (Int32 × Int32)) (H : Heap) (locs : List Loc) (ls : Array Slot), fX5_tableFar_L4 n l1 l2 l3 fxb = some rs → lv_has ls 4 [(0, .ref ax), (1, .int l1), (2, .int l2), (3, .int l3)] → va_P (dC, dI) vwCl [(ax, .inr (5, [.int vxn, .ref axr, .ref axb, .ref axj, .int vxk, .ref axi, .ref axu, .long vxA, .long vxB, .long vxC, .long vxE])), (axb, .inl (cy, 8, .inl fxb))] H → va_D A [(ax, .inr (5, [.int vxn, .ref axr, .ref axb, .ref axj, .int vxk, .ref axi, .ref axu, .long vxA, .long vxB, .long vxC, .long vxE])), (axb, .inl (cy, 8, .inl fxb))] → va_S A s.heap H locs → (∀ (H : Heap) (locs : List Loc) (ls : Array Slot), lv_has ls 4 [(0, .ref ax), (1, .int l1), (2, .int rs.1), (3, .int rs.2)] → va_P (dC, dI) vwCl [(ax, .inr (5, [.int vxn, .ref axr, .ref axb, .ref axj, .int vxk, .ref axi, .ref axu, .long vxA, .long vxB, .long vxC, .long vxE])), (axb, .inl (cy, 8, .inl fxb))] H → va_D A [(ax, .inr (5, [.int vxn, .ref axr, .ref axb, .ref axj, .int vxk, .ref axi, .ref axu, .long vxA, .long vxB, .long vxC, .long vxE])), (axb, .inl (cy, 8, .inl fxb))] → va_S A s.heap H locs → W p l e (headSpec wsX5_tableFar ({ frames := 2, cells := 0, slots := 0, locals := 43 })).room s m (([.ref ax, .int p0] : List Value).toArray) below meth c H locs 0 0 (MQ below (va_Qi (fun (r : Int32) (_ : Unit) => r = res) (QW (dC, dI) cy A [(ax, .inr (5, [.int vxn, .ref axr, .ref axb, .ref axj, .int vxk, .ref axi, .ref axu, .long vxA, .long vxB, .long vxC, .long vxE])), (axb, .inl (cy, 8, .inl fxb))]) A) (([.ref ax, .int p0] : List Value).toArray) s 0 0 A) (F0 m 38 ls [])) → W p l e (headSpec wsX5_tableFar ({ frames := 2, cells := 0, slots := 0, locals := 43 })).room s m (([.ref ax, .int p0] : List Value).toArray) below meth c H locs 0 0 (MQ below (va_Qi (fun (r : Int32) (_ : Unit) => r = res) (QW (dC, dI) cy A [(ax, .inr (5, [.int vxn, .ref axr, .ref axb, .ref axj, .int vxk, .ref axi, .ref axu, .long vxA, .long vxB, .long vxC, .long vxE])), (axb, .inl (cy, 8, .inl fxb))]) A) (([.ref ax, .int p0] : List Value).toArray) s 0 0 A) (F0 m 4 ls []) := by
    intro n
    induction n with
    | zero =>
      intro l1 l2 l3 rs H locs ls h
      rw [fX5_tableFar_L4_0] at h
      cases h
    | succ n ih =>
      intro l1 l2 l3 rs H locs ls h hl hP hD hS K
      rw [fX5_tableFar_L4_s] at h
      refine lv_iload_n hx hb dX5_tableFar_4 rfl (lv_at hl 3 rfl) ?_
      refine lv_bipush (v := (8 : Int32)) hx hb dX5_tableFar_5 (by decide) ?_
      refine lv_icmp_ge (tgt := 38) hx hb dX5_tableFar_7 (by decide) (fun c3 => ?_) (fun c3 => ?_)
      · rw [if_pos c3] at h
        have h0 := Option.some.inj h
        subst h0
        exact K H locs ls (lv_sub hl [0, 1, 2, 3] rfl) hP hD hS
      · rw [if_neg c3] at h
        refine lv_iload_n hx hb dX5_tableFar_10 rfl (lv_at hl 2 rfl) ?_
        refine lv_aload_n hx hb dX5_tableFar_11 rfl (lv_at hl 0 rfl) ?_
        refine va_get (D := (dC, dI)) (ci := 5) (v := .ref axb) (C := RX5) (T := TX5) (N := 11) hx hb hts hin_X5 hown hK hP 0 rfl rfl 2 (by decide) (hf_17) (fun _ h9 => h9) rfl dX5_tableFar_12 ?_
        refine lv_iload_n hx hb dX5_tableFar_15 rfl (lv_at hl 3 rfl) ?_
        obtain ⟨hi, h⟩ := gin_some h
        refine va_iald hx hb hK hP 1 0 rfl rfl hi dX5_tableFar_16 ?_
        refine lv_iload_n hx hb dX5_tableFar_17 rfl (lv_at hl 1 rfl) ?_
        refine lv_iload_n hx hb dX5_tableFar_18 rfl (lv_at hl 3 rfl) ?_
        obtain ⟨r1, hr1, h⟩ := bd_some h
        have hFc := va_free (wc := []) hD hS hA [] rfl
        refine va_calli (va_runS (As := [.int l1, .int l3]) (rest := [.int (fxb l3.toNatClampNeg), .int l2]) ⟨hx, hb, hml, hown, hts⟩ (c_X5_parity l dC dI cy  H.size  l1 l3 r1 hr1) (va_cwS 2 hts gX5_tableFar_X5_parity rfl rfl rfl (by decide +kernel) ⟨Nat.le_of_ble_eq_true rfl, Nat.le_of_ble_eq_true rfl⟩) ⟨PW_fb, PW_pre (hP.sub (ws' := []) [] rfl) hK (hD.sub [] (by decide) rfl) hN⟩ rfl rfl hl.1 rfl (lv_room (Nat.le_of_ble_eq_true rfl)) dX5_tableFar_19 ⟨Nat.zero_le _, Nat.zero_le _⟩) hS (fun q _ h => hFc q h) hFc (fun rz u t H locs ht hvm hw hB hz1 hk1 hS => ?_)
        obtain ⟨hP, hD⟩ := jn (wr := [(ax, .inr (5, [.int vxn, .ref axr, .ref axb, .ref axj, .int vxk, .ref axi, .ref axu, .long vxA, .long vxB, .long vxC, .long vxE])), (axb, .inl (cy, 8, .inl fxb))]) (w1 := []) (ws' := [(ax, .inr (5, [.int vxn, .ref axr, .ref axb, .ref axj, .int vxk, .ref axi, .ref axu, .long vxA, .long vxB, .long vxC, .long vxE])), (axb, .inl (cy, 8, .inl fxb))]) hP hD [] [0, 1] rfl rfl (by decide) (by decide) hk1 hFc hB ht [0, 1] rfl (by decide) rfl
        replace hw := hw.symm
        subst hw
        clear hFc hB hk1 hz1 hvm
        refine lv_icmp_ne (tgt := 29) hx hb dX5_tableFar_22 (by decide) (fun c2 => ?_) (fun c2 => ?_)
        · rw [if_neg c2] at h
          refine lv_iconst (v := (1 : Int32)) hx hb dX5_tableFar_29 (by decide) ?_
          refine lv_iadd hx hb dX5_tableFar_30 ?_
          refine lv_istore_n (lv' := [(2, .int (l2 + (1 : Int32))), (0, .ref ax), (1, .int l1), (3, .int l3)]) hx hb dX5_tableFar_31 rfl hl (by decide) rfl (fun ls hl => ?_)
          refine lv_iinc (v := l3 + (1 : Int32)) (lv' := [(3, .int (l3 + (1 : Int32))), (2, .int (l2 + (1 : Int32))), (0, .ref ax), (1, .int l1)]) hx hb dX5_tableFar_32 hl (k := 3) rfl rfl (by decide) rfl (fun ls hl => ?_)
          refine lv_goto (tgt := 4) hx hb dX5_tableFar_35 (by decide) ?_
          exact ih l1 (l2 + (1 : Int32)) (l3 + (1 : Int32)) rs H locs ls h (lv_sub hl [2, 3, 1, 0] rfl) hP hD hS K
        · rw [if_pos c2] at h
          refine lv_iconst (v := (0 : Int32)) hx hb dX5_tableFar_25 (by decide) ?_
          refine lv_goto (tgt := 30) hx hb dX5_tableFar_26 (by decide) ?_
          refine lv_iadd hx hb dX5_tableFar_30 ?_
          refine lv_istore_n (lv' := [(2, .int (l2 + (0 : Int32))), (0, .ref ax), (1, .int l1), (3, .int l3)]) hx hb dX5_tableFar_31 rfl hl (by decide) rfl (fun ls hl => ?_)
          refine lv_iinc (v := l3 + (1 : Int32)) (lv' := [(3, .int (l3 + (1 : Int32))), (2, .int (l2 + (0 : Int32))), (0, .ref ax), (1, .int l1)]) hx hb dX5_tableFar_32 hl (k := 3) rfl rfl (by decide) rfl (fun ls hl => ?_)
          refine lv_goto (tgt := 4) hx hb dX5_tableFar_35 (by decide) ?_
          exact ih l1 (l2 + (0 : Int32)) (l3 + (1 : Int32)) rs H locs ls h (lv_sub hl [2, 3, 1, 0] rfl) hP hD hS K
  obtain ⟨q5, hq5, h⟩ := bd_some h
  refine L4_3 FU p0 (0 : Int32) (0 : Int32) q5 H locs ls hq5 (lv_sub hl [2, 3, 1, 0] rfl) hP hD hS (fun H locs ls hl hP hD hS => ?_)
  refine lv_iload_n hx hb dX5_tableFar_38 rfl (lv_at hl 2 rfl) ?_
  have h0 := Option.some.inj h
  subst h0
  exact W.iret hx hb hr (fun t ht hW => ⟨⟨_, (), rfl, rfl, QW_mk hP hK hD ht hW⟩, hS.F ht⟩) hS.2.2 dX5_tableFar_39

noncomputable def fX5_nearestTable_L4 (n : Nat) (l1 : Int32) (l2 : Int32) (fxb : Nat → Int32) : Option (Int32 × Int32) := match n with
  | 0 => none
  | n + 1 => if (8 : Int32) ≤ l2 then (some (l1, l2)) else (bd (fX5_tableFar fxb l2) fun r1 => bd (fX5_tableFar fxb l1) fun r2 => if r2 ≤ r1 then (fX5_nearestTable_L4 n l1 (l2 + (1 : Int32)) fxb) else (fX5_nearestTable_L4 n l2 (l2 + (1 : Int32)) fxb))
theorem fX5_nearestTable_L4_0 (l1 : Int32) (l2 : Int32) (fxb : Nat → Int32) : fX5_nearestTable_L4 0 l1 l2 fxb = none := rfl
theorem fX5_nearestTable_L4_s (n : Nat) (l1 : Int32) (l2 : Int32) (fxb : Nat → Int32) : fX5_nearestTable_L4 (n + 1) l1 l2 fxb = if (8 : Int32) ≤ l2 then (some (l1, l2)) else (bd (fX5_tableFar fxb l2) fun r1 => bd (fX5_tableFar fxb l1) fun r2 => if r2 ≤ r1 then (fX5_nearestTable_L4 n l1 (l2 + (1 : Int32)) fxb) else (fX5_nearestTable_L4 n l2 (l2 + (1 : Int32)) fxb)) := rfl
noncomputable def fX5_nearestTable (fxb : Nat → Int32)  : Option (Int32) := bd (fX5_nearestTable_L4 FU (0 : Int32) (1 : Int32) fxb) fun q6 => some q6.1
set_option maxHeartbeats 4000000 in
set_option maxRecDepth 100000 in
theorem c_X5_nearestTable (l : Launch) (dC : Nat → ClassId) (dI : Nat → Nat → Nat) (cy : ClassId) (ax axr axb axj axi axu : Nat) (sz : Nat) (vxn : Int32) (vxk : Int32) (vxA : Int64) (vxB : Int64) (vxC : Int64) (vxE : Int64) (fxb : Nat → Int32)  (res : Int32) (h : fX5_nearestTable fxb = some res) : Met l yX5_nearestTable wsX5_nearestTable ({ frames := 3, cells := 0, slots := 0, locals := 66 }) (va_Pc [.ref ax] (PW (dC, dI) cy sz [(ax, .inr (5, [.int vxn, .ref axr, .ref axb, .ref axj, .int vxk, .ref axi, .ref axu, .long vxA, .long vxB, .long vxC, .long vxE])), (axb, .inl (cy, 8, .inl fxb))])) (va_Qi (fun (r : Int32) (_ : Unit) => r = res) (QW (dC, dI) cy (va_A [(ax, .inr (5, [.int vxn, .ref axr, .ref axb, .ref axj, .int vxk, .ref axi, .ref axu, .long vxA, .long vxB, .long vxC, .long vxE])), (axb, .inl (cy, 8, .inl fxb))] sz) [(ax, .inr (5, [.int vxn, .ref axr, .ref axb, .ref axj, .int vxk, .ref axi, .ref axu, .long vxA, .long vxB, .long vxC, .long vxE])), (axb, .inl (cy, 8, .inl fxb))]) (va_A [(ax, .inr (5, [.int vxn, .ref axr, .ref axb, .ref axj, .int vxk, .ref axi, .ref axu, .long vxA, .long vxB, .long vxC, .long vxE])), (axb, .inl (cy, 8, .inl fxb))] sz)) 0 0 (va_A [(ax, .inr (5, [.int vxn, .ref axr, .ref axb, .ref axj, .int vxk, .ref axi, .ref axu, .long vxA, .long vxB, .long vxC, .long vxE])), (axb, .inl (cy, 8, .inl fxb))] sz) := by
  refine Met.ofW (cc := cX5_nearestTable) (maxL := 3) (ret := (some .int)) (by decide) rfl ?_
  intro p e s m args below meth c s₁ B hml hv
  obtain ⟨rfl, hsz, hP, hK, hD0, hN⟩ := hv
  have hx := B.exec
  have hb := B.bytes
  have hr := B.returns
  have hts := atoms_spec (ws := wsX5_nearestTable) B.pre
  have hown : s.vm.findClass RX5 = some m.cls := findClass_of_methodNamed B.named
  have hlocks := B.notSynchronized
  subst hsz
  have hD := hD0.self (sz := s.heap.size)
  clear hD0
  generalize hAe : va_A [(ax, .inr (5, [.int vxn, .ref axr, .ref axb, .ref axj, .int vxk, .ref axi, .ref axu, .long vxA, .long vxB, .long vxC, .long vxE])), (axb, .inl (cy, 8, .inl fxb))] s.heap.size = A at hD ⊢
  have hA : ∀ q : Nat, s.heap.size ≤ q → A q := fun q h => by rw [← hAe]; exact Or.inr h
  have hS : va_S A s.heap s.heap [] := va_S.rf
  have hl := lv_entry ([.ref ax]) (n := 3) (Nat.le_of_ble_eq_true rfl)
  rw [lg_entry_eq]
  generalize (lg_sl ([.ref ax]) ++ List.replicate (3 - (lg_sl ([.ref ax])).length) Slot.unset).toArray = ls at hl ⊢
  replace hl : lv_has ls 3 [(0, .ref ax)] := hl
  replace hP : va_P (dC, dI) vwCl [(ax, .inr (5, [.int vxn, .ref axr, .ref axb, .ref axj, .int vxk, .ref axi, .ref axu, .long vxA, .long vxB, .long vxC, .long vxE])), (axb, .inl (cy, 8, .inl fxb))] s.heap := hP
  obtain ⟨locs, hlocs⟩ : ∃ lc : List Loc, lc = [] := ⟨_, rfl⟩
  rw [← hlocs] at hS ⊢
  obtain ⟨H, hH⟩ : ∃ H : Heap, H = s.heap := ⟨_, rfl⟩
  have hP2 := hP; rw [← hH] at hP2
  have hS2 : va_S A s.heap H locs := by rw [hH]; exact hS
  suffices hgo : W p l e (headSpec wsX5_nearestTable ({ frames := 3, cells := 0, slots := 0, locals := 66 })).room s m (([.ref ax] : List Value).toArray) below meth c H locs 0 0 (MQ below (va_Qi (fun (r : Int32) (_ : Unit) => r = res) (QW (dC, dI) cy A [(ax, .inr (5, [.int vxn, .ref axr, .ref axb, .ref axj, .int vxk, .ref axi, .ref axu, .long vxA, .long vxB, .long vxC, .long vxE])), (axb, .inl (cy, 8, .inl fxb))]) A) (([.ref ax] : List Value).toArray) s 0 0 A) (F0 m 0 ls []) by rw [hH] at hgo; exact hgo
  replace hP := hP2
  replace hS := hS2
  clear hP2 hS2
  unfold fX5_nearestTable at h
  refine lv_iconst (v := (0 : Int32)) hx hb dX5_nearestTable_0 (by decide) ?_
  refine lv_istore_n (lv' := [(1, .int (0 : Int32)), (0, .ref ax)]) hx hb dX5_nearestTable_1 rfl hl (by decide) rfl (fun ls hl => ?_)
  refine lv_iconst (v := (1 : Int32)) hx hb dX5_nearestTable_2 (by decide) ?_
  refine lv_istore_n (lv' := [(2, .int (1 : Int32)), (1, .int (0 : Int32)), (0, .ref ax)]) hx hb dX5_nearestTable_3 rfl hl (by decide) rfl (fun ls hl => ?_)
  have L4_4 : ∀ (n : Nat) (l1 : Int32) (l2 : Int32) (rs : (Int32 × Int32)) (H : Heap) (locs : List Loc) (ls : Array Slot), fX5_nearestTable_L4 n l1 l2 fxb = some rs → lv_has ls 3 [(0, .ref ax), (1, .int l1), (2, .int l2)] → va_P (dC, dI) vwCl [(ax, .inr (5, [.int vxn, .ref axr, .ref axb, .ref axj, .int vxk, .ref axi, .ref axu, .long vxA, .long vxB, .long vxC, .long vxE])), (axb, .inl (cy, 8, .inl fxb))] H → va_D A [(ax, .inr (5, [.int vxn, .ref axr, .ref axb, .ref axj, .int vxk, .ref axi, .ref axu, .long vxA, .long vxB, .long vxC, .long vxE])), (axb, .inl (cy, 8, .inl fxb))] → va_S A s.heap H locs → (∀ (H : Heap) (locs : List Loc) (ls : Array Slot), lv_has ls 3 [(0, .ref ax), (1, .int rs.1), (2, .int rs.2)] → va_P (dC, dI) vwCl [(ax, .inr (5, [.int vxn, .ref axr, .ref axb, .ref axj, .int vxk, .ref axi, .ref axu, .long vxA, .long vxB, .long vxC, .long vxE])), (axb, .inl (cy, 8, .inl fxb))] H → va_D A [(ax, .inr (5, [.int vxn, .ref axr, .ref axb, .ref axj, .int vxk, .ref axi, .ref axu, .long vxA, .long vxB, .long vxC, .long vxE])), (axb, .inl (cy, 8, .inl fxb))] → va_S A s.heap H locs → W p l e (headSpec wsX5_nearestTable ({ frames := 3, cells := 0, slots := 0, locals := 66 })).room s m (([.ref ax] : List Value).toArray) below meth c H locs 0 0 (MQ below (va_Qi (fun (r : Int32) (_ : Unit) => r = res) (QW (dC, dI) cy A [(ax, .inr (5, [.int vxn, .ref axr, .ref axb, .ref axj, .int vxk, .ref axi, .ref axu, .long vxA, .long vxB, .long vxC, .long vxE])), (axb, .inl (cy, 8, .inl fxb))]) A) (([.ref ax] : List Value).toArray) s 0 0 A) (F0 m 35 ls [])) → W p l e (headSpec wsX5_nearestTable ({ frames := 3, cells := 0, slots := 0, locals := 66 })).room s m (([.ref ax] : List Value).toArray) below meth c H locs 0 0 (MQ below (va_Qi (fun (r : Int32) (_ : Unit) => r = res) (QW (dC, dI) cy A [(ax, .inr (5, [.int vxn, .ref axr, .ref axb, .ref axj, .int vxk, .ref axi, .ref axu, .long vxA, .long vxB, .long vxC, .long vxE])), (axb, .inl (cy, 8, .inl fxb))]) A) (([.ref ax] : List Value).toArray) s 0 0 A) (F0 m 4 ls []) := by
    intro n
    induction n with
    | zero =>
      intro l1 l2 rs H locs ls h
      rw [fX5_nearestTable_L4_0] at h
      cases h
    | succ n ih =>
      intro l1 l2 rs H locs ls h hl hP hD hS K
      rw [fX5_nearestTable_L4_s] at h
      refine lv_iload_n hx hb dX5_nearestTable_4 rfl (lv_at hl 2 rfl) ?_
      refine lv_bipush (v := (8 : Int32)) hx hb dX5_nearestTable_5 (by decide) ?_
      refine lv_icmp_ge (tgt := 35) hx hb dX5_nearestTable_7 (by decide) (fun c4 => ?_) (fun c4 => ?_)
      · rw [if_pos c4] at h
        have h0 := Option.some.inj h
        subst h0
        exact K H locs ls (lv_sub hl [0, 1, 2] rfl) hP hD hS
      · rw [if_neg c4] at h
        refine lv_aload_n hx hb dX5_nearestTable_10 rfl (lv_at hl 0 rfl) ?_
        refine lv_iload_n hx hb dX5_nearestTable_11 rfl (lv_at hl 2 rfl) ?_
        obtain ⟨r1, hr1, h⟩ := bd_some h
        have hFc := va_free (wc := [(ax, .inr (5, [.int vxn, .ref axr, .ref axb, .ref axj, .int vxk, .ref axi, .ref axu, .long vxA, .long vxB, .long vxC, .long vxE])), (axb, .inl (cy, 8, .inl fxb))]) hD hS hA [0, 1] rfl
        refine va_calli (va_runV (As := [.int l2]) (rest := []) ⟨hx, hb, hml, hown, hts⟩ (c_X5_tableFar l dC dI cy ax axr axb axj axi axu H.size vxn vxk vxA vxB vxC vxE fxb l2 r1 hr1) (cwV 1 hts gX5_nearestTable_X5_tableFar rfl rfl rfl (by decide +kernel) ⟨Nat.le_of_ble_eq_true rfl, Nat.le_of_ble_eq_true rfl⟩) ⟨PW_fb, va_recv hK hP (ci := 5) (q0 := 0) rfl rfl, PW_pre (hP.sub (ws' := [(ax, .inr (5, [.int vxn, .ref axr, .ref axb, .ref axj, .int vxk, .ref axi, .ref axu, .long vxA, .long vxB, .long vxC, .long vxE])), (axb, .inl (cy, 8, .inl fxb))]) [0, 1] rfl) hK (hD.sub [0, 1] (by decide) rfl) hN⟩ rfl rfl hl.1 rfl (lv_room (Nat.le_of_ble_eq_true rfl)) dX5_nearestTable_12 ⟨Nat.zero_le _, Nat.zero_le _⟩) hS (fun q _ h => hFc q h) hFc (fun rz u t H locs ht hvm hw hB hz1 hk1 hS => ?_)
        obtain ⟨hP, hD⟩ := jn (wr := []) (w1 := [(ax, .inr (5, [.int vxn, .ref axr, .ref axb, .ref axj, .int vxk, .ref axi, .ref axu, .long vxA, .long vxB, .long vxC, .long vxE])), (axb, .inl (cy, 8, .inl fxb))]) (ws' := [(ax, .inr (5, [.int vxn, .ref axr, .ref axb, .ref axj, .int vxk, .ref axi, .ref axu, .long vxA, .long vxB, .long vxC, .long vxE])), (axb, .inl (cy, 8, .inl fxb))]) hP hD [0, 1] [] rfl rfl (by decide) (by decide) hk1 hFc hB ht [0, 1] rfl (by decide) rfl
        replace hw := hw.symm
        subst hw
        clear hFc hB hk1 hz1 hvm
        refine lv_aload_n hx hb dX5_nearestTable_15 rfl (lv_at hl 0 rfl) ?_
        refine lv_iload_n hx hb dX5_nearestTable_16 rfl (lv_at hl 1 rfl) ?_
        obtain ⟨r2, hr2, h⟩ := bd_some h
        have hFc := va_free (wc := [(ax, .inr (5, [.int vxn, .ref axr, .ref axb, .ref axj, .int vxk, .ref axi, .ref axu, .long vxA, .long vxB, .long vxC, .long vxE])), (axb, .inl (cy, 8, .inl fxb))]) hD hS hA [0, 1] rfl
        refine va_calli (va_runV (As := [.int l1]) (rest := [.int r1]) ⟨hx, hb, hml, hown, hts⟩ (c_X5_tableFar l dC dI cy ax axr axb axj axi axu H.size vxn vxk vxA vxB vxC vxE fxb l1 r2 hr2) (cwV 1 hts gX5_nearestTable_X5_tableFar rfl rfl rfl (by decide +kernel) ⟨Nat.le_of_ble_eq_true rfl, Nat.le_of_ble_eq_true rfl⟩) ⟨PW_fb, va_recv hK hP (ci := 5) (q0 := 0) rfl rfl, PW_pre (hP.sub (ws' := [(ax, .inr (5, [.int vxn, .ref axr, .ref axb, .ref axj, .int vxk, .ref axi, .ref axu, .long vxA, .long vxB, .long vxC, .long vxE])), (axb, .inl (cy, 8, .inl fxb))]) [0, 1] rfl) hK (hD.sub [0, 1] (by decide) rfl) hN⟩ rfl rfl hl.1 rfl (lv_room (Nat.le_of_ble_eq_true rfl)) dX5_nearestTable_17 ⟨Nat.zero_le _, Nat.zero_le _⟩) hS (fun q _ h => hFc q h) hFc (fun rz u t H locs ht hvm hw hB hz1 hk1 hS => ?_)
        obtain ⟨hP, hD⟩ := jn (wr := []) (w1 := [(ax, .inr (5, [.int vxn, .ref axr, .ref axb, .ref axj, .int vxk, .ref axi, .ref axu, .long vxA, .long vxB, .long vxC, .long vxE])), (axb, .inl (cy, 8, .inl fxb))]) (ws' := [(ax, .inr (5, [.int vxn, .ref axr, .ref axb, .ref axj, .int vxk, .ref axi, .ref axu, .long vxA, .long vxB, .long vxC, .long vxE])), (axb, .inl (cy, 8, .inl fxb))]) hP hD [0, 1] [] rfl rfl (by decide) (by decide) hk1 hFc hB ht [0, 1] rfl (by decide) rfl
        replace hw := hw.symm
        subst hw
        clear hFc hB hk1 hz1 hvm
        refine lv_icmp_ge (tgt := 27) hx hb dX5_nearestTable_20 (by decide) (fun c3 => ?_) (fun c3 => ?_)
        · rw [if_pos c3] at h
          refine lv_iload_n hx hb dX5_nearestTable_27 rfl (lv_at hl 1 rfl) ?_
          refine lv_istore_n (lv' := [(1, .int l1), (0, .ref ax), (2, .int l2)]) hx hb dX5_nearestTable_28 rfl hl (by decide) rfl (fun ls hl => ?_)
          refine lv_iinc (v := l2 + (1 : Int32)) (lv' := [(2, .int (l2 + (1 : Int32))), (1, .int l1), (0, .ref ax)]) hx hb dX5_nearestTable_29 hl (k := 2) rfl rfl (by decide) rfl (fun ls hl => ?_)
          refine lv_goto (tgt := 4) hx hb dX5_nearestTable_32 (by decide) ?_
          exact ih l1 (l2 + (1 : Int32)) rs H locs ls h (lv_sub hl [2, 1, 0] rfl) hP hD hS K
        · rw [if_neg c3] at h
          refine lv_iload_n hx hb dX5_nearestTable_23 rfl (lv_at hl 2 rfl) ?_
          refine lv_goto (tgt := 28) hx hb dX5_nearestTable_24 (by decide) ?_
          refine lv_istore_n (lv' := [(1, .int l2), (0, .ref ax), (2, .int l2)]) hx hb dX5_nearestTable_28 rfl hl (by decide) rfl (fun ls hl => ?_)
          refine lv_iinc (v := l2 + (1 : Int32)) (lv' := [(2, .int (l2 + (1 : Int32))), (1, .int l2), (0, .ref ax)]) hx hb dX5_nearestTable_29 hl (k := 2) rfl rfl (by decide) rfl (fun ls hl => ?_)
          refine lv_goto (tgt := 4) hx hb dX5_nearestTable_32 (by decide) ?_
          exact ih l2 (l2 + (1 : Int32)) rs H locs ls h (lv_sub hl [2, 1, 0] rfl) hP hD hS K
  obtain ⟨q6, hq6, h⟩ := bd_some h
  refine L4_4 FU (0 : Int32) (1 : Int32) q6 H locs ls hq6 (lv_sub hl [2, 1, 0] rfl) hP hD hS (fun H locs ls hl hP hD hS => ?_)
  refine lv_iload_n hx hb dX5_nearestTable_35 rfl (lv_at hl 1 rfl) ?_
  have h0 := Option.some.inj h
  subst h0
  exact W.iret hx hb hr (fun t ht hW => ⟨⟨_, (), rfl, rfl, QW_mk hP hK hD ht hW⟩, hS.F ht⟩) hS.2.2 dX5_nearestTable_36

noncomputable def fX5_netFar_L15 (n : Nat) (l1 : Int32) (l2 : Int32) (l3 : Int32) (l4 : Int32) (l5 : Int32) (fxj : Nat → Int32) : Option (Int32 × Int32) := match n with
  | 0 => none
  | n + 1 => if l4 ≤ l5 then (some (l3, l5)) else (gin l4 6 (bd (if (((fxj l4.toNatClampNeg) >>> (l5 &&& 31)) &&& (1 : Int32)) = (1 : Int32) then (if (((l2 >>> (l4 &&& 31)) &&& (l2 >>> (l5 &&& 31))) &&& (1 : Int32)) = (1 : Int32) then (some (1 : Int32)) else (some (0 : Int32))) else (some (0 : Int32))) fun q1 => if q1 = 0 then (fX5_netFar_L15 n l1 l2 (l3 + (0 : Int32)) l4 (l5 + (1 : Int32)) fxj) else (if ((l1 >>> (l4 &&& 31)) &&& (1 : Int32)) = ((l1 >>> (l5 &&& 31)) &&& (1 : Int32)) then (fX5_netFar_L15 n l1 l2 (l3 + (1 : Int32)) l4 (l5 + (1 : Int32)) fxj) else (fX5_netFar_L15 n l1 l2 (l3 + (0 : Int32)) l4 (l5 + (1 : Int32)) fxj))))
theorem fX5_netFar_L15_0 (l1 : Int32) (l2 : Int32) (l3 : Int32) (l4 : Int32) (l5 : Int32) (fxj : Nat → Int32) : fX5_netFar_L15 0 l1 l2 l3 l4 l5 fxj = none := rfl
theorem fX5_netFar_L15_s (n : Nat) (l1 : Int32) (l2 : Int32) (l3 : Int32) (l4 : Int32) (l5 : Int32) (fxj : Nat → Int32) : fX5_netFar_L15 (n + 1) l1 l2 l3 l4 l5 fxj = if l4 ≤ l5 then (some (l3, l5)) else (gin l4 6 (bd (if (((fxj l4.toNatClampNeg) >>> (l5 &&& 31)) &&& (1 : Int32)) = (1 : Int32) then (if (((l2 >>> (l4 &&& 31)) &&& (l2 >>> (l5 &&& 31))) &&& (1 : Int32)) = (1 : Int32) then (some (1 : Int32)) else (some (0 : Int32))) else (some (0 : Int32))) fun q1 => if q1 = 0 then (fX5_netFar_L15 n l1 l2 (l3 + (0 : Int32)) l4 (l5 + (1 : Int32)) fxj) else (if ((l1 >>> (l4 &&& 31)) &&& (1 : Int32)) = ((l1 >>> (l5 &&& 31)) &&& (1 : Int32)) then (fX5_netFar_L15 n l1 l2 (l3 + (1 : Int32)) l4 (l5 + (1 : Int32)) fxj) else (fX5_netFar_L15 n l1 l2 (l3 + (0 : Int32)) l4 (l5 + (1 : Int32)) fxj)))) := rfl
noncomputable def fX5_netFar_L5 (n : Nat) (l1 : Int32) (l2 : Int32) (l3 : Int32) (l4 : Int32) (fxj : Nat → Int32) : Option (Int32 × Int32) := match n with
  | 0 => none
  | n + 1 => if (6 : Int32) ≤ l4 then (some (l3, l4)) else (bd (fX5_netFar_L15 FU l1 l2 l3 l4 (0 : Int32) fxj) fun q8 => fX5_netFar_L5 n l1 l2 q8.1 (l4 + (1 : Int32)) fxj)
theorem fX5_netFar_L5_0 (l1 : Int32) (l2 : Int32) (l3 : Int32) (l4 : Int32) (fxj : Nat → Int32) : fX5_netFar_L5 0 l1 l2 l3 l4 fxj = none := rfl
theorem fX5_netFar_L5_s (n : Nat) (l1 : Int32) (l2 : Int32) (l3 : Int32) (l4 : Int32) (fxj : Nat → Int32) : fX5_netFar_L5 (n + 1) l1 l2 l3 l4 fxj = if (6 : Int32) ≤ l4 then (some (l3, l4)) else (bd (fX5_netFar_L15 FU l1 l2 l3 l4 (0 : Int32) fxj) fun q8 => fX5_netFar_L5 n l1 l2 q8.1 (l4 + (1 : Int32)) fxj) := rfl
noncomputable def fX5_netFar (fxj : Nat → Int32) (p0 : Int32) (p1 : Int32) : Option (Int32) := bd (fX5_netFar_L5 FU p0 p1 (0 : Int32) (0 : Int32) fxj) fun q11 => some q11.1
set_option maxHeartbeats 4000000 in
set_option maxRecDepth 100000 in
theorem c_X5_netFar (l : Launch) (dC : Nat → ClassId) (dI : Nat → Nat → Nat) (cy : ClassId) (ax axr axb axj axi axu : Nat) (sz : Nat) (vxn : Int32) (vxk : Int32) (vxA : Int64) (vxB : Int64) (vxC : Int64) (vxE : Int64) (fxj : Nat → Int32) (p0 : Int32) (p1 : Int32) (res : Int32) (h : fX5_netFar fxj p0 p1 = some res) : Met l yX5_netFar wsX5_netFar ({ frames := 0, cells := 0, slots := 0, locals := 0 }) (va_Pc [.ref ax, .int p0, .int p1] (PW (dC, dI) cy sz [(ax, .inr (5, [.int vxn, .ref axr, .ref axb, .ref axj, .int vxk, .ref axi, .ref axu, .long vxA, .long vxB, .long vxC, .long vxE])), (axj, .inl (cy, 6, .inl fxj))])) (va_Qi (fun (r : Int32) (_ : Unit) => r = res) (QW (dC, dI) cy (va_A [(ax, .inr (5, [.int vxn, .ref axr, .ref axb, .ref axj, .int vxk, .ref axi, .ref axu, .long vxA, .long vxB, .long vxC, .long vxE])), (axj, .inl (cy, 6, .inl fxj))] sz) [(ax, .inr (5, [.int vxn, .ref axr, .ref axb, .ref axj, .int vxk, .ref axi, .ref axu, .long vxA, .long vxB, .long vxC, .long vxE])), (axj, .inl (cy, 6, .inl fxj))]) (va_A [(ax, .inr (5, [.int vxn, .ref axr, .ref axb, .ref axj, .int vxk, .ref axi, .ref axu, .long vxA, .long vxB, .long vxC, .long vxE])), (axj, .inl (cy, 6, .inl fxj))] sz)) 0 0 (va_A [(ax, .inr (5, [.int vxn, .ref axr, .ref axb, .ref axj, .int vxk, .ref axi, .ref axu, .long vxA, .long vxB, .long vxC, .long vxE])), (axj, .inl (cy, 6, .inl fxj))] sz) := by
  refine Met.ofW (cc := cX5_netFar) (maxL := 7) (ret := (some .int)) (by decide) rfl ?_
  intro p e s m args below meth c s₁ B hml hv
  obtain ⟨rfl, hsz, hP, hK, hD0, hN⟩ := hv
  have hx := B.exec
  have hb := B.bytes
  have hr := B.returns
  have hts := atoms_spec (ws := wsX5_netFar) B.pre
  have hown : s.vm.findClass RX5 = some m.cls := findClass_of_methodNamed B.named
  have hlocks := B.notSynchronized
  subst hsz
  have hD := hD0.self (sz := s.heap.size)
  clear hD0
  generalize hAe : va_A [(ax, .inr (5, [.int vxn, .ref axr, .ref axb, .ref axj, .int vxk, .ref axi, .ref axu, .long vxA, .long vxB, .long vxC, .long vxE])), (axj, .inl (cy, 6, .inl fxj))] s.heap.size = A at hD ⊢
  have hA : ∀ q : Nat, s.heap.size ≤ q → A q := fun q h => by rw [← hAe]; exact Or.inr h
  have hS : va_S A s.heap s.heap [] := va_S.rf
  have hl := lv_entry ([.ref ax, .int p0, .int p1]) (n := 7) (Nat.le_of_ble_eq_true rfl)
  rw [lg_entry_eq]
  generalize (lg_sl ([.ref ax, .int p0, .int p1]) ++ List.replicate (7 - (lg_sl ([.ref ax, .int p0, .int p1])).length) Slot.unset).toArray = ls at hl ⊢
  replace hl : lv_has ls 7 [(0, .ref ax), (1, .int p0), (2, .int p1)] := hl
  replace hP : va_P (dC, dI) vwCl [(ax, .inr (5, [.int vxn, .ref axr, .ref axb, .ref axj, .int vxk, .ref axi, .ref axu, .long vxA, .long vxB, .long vxC, .long vxE])), (axj, .inl (cy, 6, .inl fxj))] s.heap := hP
  obtain ⟨locs, hlocs⟩ : ∃ lc : List Loc, lc = [] := ⟨_, rfl⟩
  rw [← hlocs] at hS ⊢
  obtain ⟨H, hH⟩ : ∃ H : Heap, H = s.heap := ⟨_, rfl⟩
  have hP2 := hP; rw [← hH] at hP2
  have hS2 : va_S A s.heap H locs := by rw [hH]; exact hS
  suffices hgo : W p l e (headSpec wsX5_netFar ({ frames := 0, cells := 0, slots := 0, locals := 0 })).room s m (([.ref ax, .int p0, .int p1] : List Value).toArray) below meth c H locs 0 0 (MQ below (va_Qi (fun (r : Int32) (_ : Unit) => r = res) (QW (dC, dI) cy A [(ax, .inr (5, [.int vxn, .ref axr, .ref axb, .ref axj, .int vxk, .ref axi, .ref axu, .long vxA, .long vxB, .long vxC, .long vxE])), (axj, .inl (cy, 6, .inl fxj))]) A) (([.ref ax, .int p0, .int p1] : List Value).toArray) s 0 0 A) (F0 m 0 ls []) by rw [hH] at hgo; exact hgo
  replace hP := hP2
  replace hS := hS2
  clear hP2 hS2
  have hin_X5 : ∀ w ∈ wsX50, w ∈ wsX5_netFar := by decide +kernel
  have hf_20 := hts (.fieldLink RX5 20 "FewLooksModel" "joined" "[I") (by decide +kernel)
  unfold fX5_netFar at h
  refine lv_iconst (v := (0 : Int32)) hx hb dX5_netFar_0 (by decide) ?_
  refine lv_istore_n (lv' := [(3, .int (0 : Int32)), (0, .ref ax), (1, .int p0), (2, .int p1)]) hx hb dX5_netFar_1 rfl hl (by decide) rfl (fun ls hl => ?_)
  refine lv_iconst (v := (0 : Int32)) hx hb dX5_netFar_2 (by decide) ?_
  refine lv_istore (lv' := [(4, .int (0 : Int32)), (3, .int (0 : Int32)), (0, .ref ax), (1, .int p0), (2, .int p1)]) hx hb dX5_netFar_3 hl (by decide) rfl (fun ls hl => ?_)
  have L5_9 : ∀ (n : Nat) (l1 : Int32) (l2 : Int32) (l3 : Int32) (l4 : Int32) (rs : (Int32 × Int32)) (H : Heap) (locs : List Loc) (ls : Array Slot), fX5_netFar_L5 n l1 l2 l3 l4 fxj = some rs → lv_has ls 7 [(0, .ref ax), (1, .int l1), (2, .int l2), (3, .int l3), (4, .int l4)] → va_P (dC, dI) vwCl [(ax, .inr (5, [.int vxn, .ref axr, .ref axb, .ref axj, .int vxk, .ref axi, .ref axu, .long vxA, .long vxB, .long vxC, .long vxE])), (axj, .inl (cy, 6, .inl fxj))] H → va_D A [(ax, .inr (5, [.int vxn, .ref axr, .ref axb, .ref axj, .int vxk, .ref axi, .ref axu, .long vxA, .long vxB, .long vxC, .long vxE])), (axj, .inl (cy, 6, .inl fxj))] → va_S A s.heap H locs → (∀ (H : Heap) (locs : List Loc) (ls : Array Slot), lv_has ls 7 [(0, .ref ax), (1, .int l1), (2, .int l2), (3, .int rs.1), (4, .int rs.2)] → va_P (dC, dI) vwCl [(ax, .inr (5, [.int vxn, .ref axr, .ref axb, .ref axj, .int vxk, .ref axi, .ref axu, .long vxA, .long vxB, .long vxC, .long vxE])), (axj, .inl (cy, 6, .inl fxj))] H → va_D A [(ax, .inr (5, [.int vxn, .ref axr, .ref axb, .ref axj, .int vxk, .ref axi, .ref axu, .long vxA, .long vxB, .long vxC, .long vxE])), (axj, .inl (cy, 6, .inl fxj))] → va_S A s.heap H locs → W p l e (headSpec wsX5_netFar ({ frames := 0, cells := 0, slots := 0, locals := 0 })).room s m (([.ref ax, .int p0, .int p1] : List Value).toArray) below meth c H locs 0 0 (MQ below (va_Qi (fun (r : Int32) (_ : Unit) => r = res) (QW (dC, dI) cy A [(ax, .inr (5, [.int vxn, .ref axr, .ref axb, .ref axj, .int vxk, .ref axi, .ref axu, .long vxA, .long vxB, .long vxC, .long vxE])), (axj, .inl (cy, 6, .inl fxj))]) A) (([.ref ax, .int p0, .int p1] : List Value).toArray) s 0 0 A) (F0 m 100 ls [])) → W p l e (headSpec wsX5_netFar ({ frames := 0, cells := 0, slots := 0, locals := 0 })).room s m (([.ref ax, .int p0, .int p1] : List Value).toArray) below meth c H locs 0 0 (MQ below (va_Qi (fun (r : Int32) (_ : Unit) => r = res) (QW (dC, dI) cy A [(ax, .inr (5, [.int vxn, .ref axr, .ref axb, .ref axj, .int vxk, .ref axi, .ref axu, .long vxA, .long vxB, .long vxC, .long vxE])), (axj, .inl (cy, 6, .inl fxj))]) A) (([.ref ax, .int p0, .int p1] : List Value).toArray) s 0 0 A) (F0 m 5 ls []) := by
    intro n
    induction n with
    | zero =>
      intro l1 l2 l3 l4 rs H locs ls h
      rw [fX5_netFar_L5_0] at h
      cases h
    | succ n ih =>
      intro l1 l2 l3 l4 rs H locs ls h hl hP hD hS K
      rw [fX5_netFar_L5_s] at h
      refine lv_iload hx hb dX5_netFar_5 (lv_at hl 4 rfl) ?_
      refine lv_bipush (v := (6 : Int32)) hx hb dX5_netFar_7 (by decide) ?_
      refine lv_icmp_ge (tgt := 100) hx hb dX5_netFar_9 (by decide) (fun c9 => ?_) (fun c9 => ?_)
      · rw [if_pos c9] at h
        have h0 := Option.some.inj h
        subst h0
        exact K H locs ls (lv_sub hl [0, 1, 2, 3, 4] rfl) hP hD hS
      · rw [if_neg c9] at h
        refine lv_iconst (v := (0 : Int32)) hx hb dX5_netFar_12 (by decide) ?_
        refine lv_istore (lv' := [(5, .int (0 : Int32)), (0, .ref ax), (1, .int l1), (2, .int l2), (3, .int l3), (4, .int l4)]) hx hb dX5_netFar_13 hl (by decide) rfl (fun ls hl => ?_)
        have L15_6 : ∀ (n : Nat) (l1 : Int32) (l2 : Int32) (l3 : Int32) (l4 : Int32) (l5 : Int32) (rs : (Int32 × Int32)) (H : Heap) (locs : List Loc) (ls : Array Slot), fX5_netFar_L15 n l1 l2 l3 l4 l5 fxj = some rs → lv_has ls 7 [(0, .ref ax), (1, .int l1), (2, .int l2), (3, .int l3), (4, .int l4), (5, .int l5)] → va_P (dC, dI) vwCl [(ax, .inr (5, [.int vxn, .ref axr, .ref axb, .ref axj, .int vxk, .ref axi, .ref axu, .long vxA, .long vxB, .long vxC, .long vxE])), (axj, .inl (cy, 6, .inl fxj))] H → va_D A [(ax, .inr (5, [.int vxn, .ref axr, .ref axb, .ref axj, .int vxk, .ref axi, .ref axu, .long vxA, .long vxB, .long vxC, .long vxE])), (axj, .inl (cy, 6, .inl fxj))] → va_S A s.heap H locs → (∀ (H : Heap) (locs : List Loc) (ls : Array Slot), lv_has ls 7 [(0, .ref ax), (1, .int l1), (2, .int l2), (3, .int rs.1), (4, .int l4), (5, .int rs.2)] → va_P (dC, dI) vwCl [(ax, .inr (5, [.int vxn, .ref axr, .ref axb, .ref axj, .int vxk, .ref axi, .ref axu, .long vxA, .long vxB, .long vxC, .long vxE])), (axj, .inl (cy, 6, .inl fxj))] H → va_D A [(ax, .inr (5, [.int vxn, .ref axr, .ref axb, .ref axj, .int vxk, .ref axi, .ref axu, .long vxA, .long vxB, .long vxC, .long vxE])), (axj, .inl (cy, 6, .inl fxj))] → va_S A s.heap H locs → W p l e (headSpec wsX5_netFar ({ frames := 0, cells := 0, slots := 0, locals := 0 })).room s m (([.ref ax, .int p0, .int p1] : List Value).toArray) below meth c H locs 0 0 (MQ below (va_Qi (fun (r : Int32) (_ : Unit) => r = res) (QW (dC, dI) cy A [(ax, .inr (5, [.int vxn, .ref axr, .ref axb, .ref axj, .int vxk, .ref axi, .ref axu, .long vxA, .long vxB, .long vxC, .long vxE])), (axj, .inl (cy, 6, .inl fxj))]) A) (([.ref ax, .int p0, .int p1] : List Value).toArray) s 0 0 A) (F0 m 94 ls [])) → W p l e (headSpec wsX5_netFar ({ frames := 0, cells := 0, slots := 0, locals := 0 })).room s m (([.ref ax, .int p0, .int p1] : List Value).toArray) below meth c H locs 0 0 (MQ below (va_Qi (fun (r : Int32) (_ : Unit) => r = res) (QW (dC, dI) cy A [(ax, .inr (5, [.int vxn, .ref axr, .ref axb, .ref axj, .int vxk, .ref axi, .ref axu, .long vxA, .long vxB, .long vxC, .long vxE])), (axj, .inl (cy, 6, .inl fxj))]) A) (([.ref ax, .int p0, .int p1] : List Value).toArray) s 0 0 A) (F0 m 15 ls []) := by
          intro n
          induction n with
          | zero =>
            intro l1 l2 l3 l4 l5 rs H locs ls h
            rw [fX5_netFar_L15_0] at h
            cases h
          | succ n ih =>
            intro l1 l2 l3 l4 l5 rs H locs ls h hl hP hD hS K
            rw [fX5_netFar_L15_s] at h
            refine lv_iload hx hb dX5_netFar_15 (lv_at hl 5 rfl) ?_
            refine lv_iload hx hb dX5_netFar_17 (lv_at hl 4 rfl) ?_
            refine lv_icmp_ge (tgt := 94) hx hb dX5_netFar_19 (by decide) (fun c6 => ?_) (fun c6 => ?_)
            · rw [if_pos c6] at h
              have h0 := Option.some.inj h
              subst h0
              exact K H locs ls (lv_sub hl [0, 1, 2, 3, 4, 5] rfl) hP hD hS
            · rw [if_neg c6] at h
              refine lv_aload_n hx hb dX5_netFar_22 rfl (lv_at hl 0 rfl) ?_
              refine va_get (D := (dC, dI)) (ci := 5) (v := .ref axj) (C := RX5) (T := TX5) (N := 11) hx hb hts hin_X5 hown hK hP 0 rfl rfl 3 (by decide) (hf_20) (fun _ h9 => h9) rfl dX5_netFar_23 ?_
              refine lv_iload hx hb dX5_netFar_26 (lv_at hl 4 rfl) ?_
              obtain ⟨hi, h⟩ := gin_some h
              refine va_iald hx hb hK hP 1 0 rfl rfl hi dX5_netFar_28 ?_
              refine lv_iload hx hb dX5_netFar_29 (lv_at hl 5 rfl) ?_
              refine lv_ishr hx hb dX5_netFar_31 ?_
              refine lv_iconst (v := (1 : Int32)) hx hb dX5_netFar_32 (by decide) ?_
              refine lv_iand hx hb dX5_netFar_33 ?_
              refine lv_iconst (v := (1 : Int32)) hx hb dX5_netFar_34 (by decide) ?_
              obtain ⟨q1, hq1, h⟩ := bd_some h
              have Jq1 : ∀ (H : Heap) (locs : List Loc) (ls : Array Slot), lv_has ls 7 [(0, .ref ax), (1, .int l1), (2, .int l2), (3, .int l3), (4, .int l4), (5, .int l5)] → va_P (dC, dI) vwCl [(ax, .inr (5, [.int vxn, .ref axr, .ref axb, .ref axj, .int vxk, .ref axi, .ref axu, .long vxA, .long vxB, .long vxC, .long vxE])), (axj, .inl (cy, 6, .inl fxj))] H → va_D A [(ax, .inr (5, [.int vxn, .ref axr, .ref axb, .ref axj, .int vxk, .ref axi, .ref axu, .long vxA, .long vxB, .long vxC, .long vxE])), (axj, .inl (cy, 6, .inl fxj))] → va_S A s.heap H locs → W p l e (headSpec wsX5_netFar ({ frames := 0, cells := 0, slots := 0, locals := 0 })).room s m (([.ref ax, .int p0, .int p1] : List Value).toArray) below meth c H locs 0 0 (MQ below (va_Qi (fun (r : Int32) (_ : Unit) => r = res) (QW (dC, dI) cy A [(ax, .inr (5, [.int vxn, .ref axr, .ref axb, .ref axj, .int vxk, .ref axi, .ref axu, .long vxA, .long vxB, .long vxC, .long vxE])), (axj, .inl (cy, 6, .inl fxj))]) A) (([.ref ax, .int p0, .int p1] : List Value).toArray) s 0 0 A) (F0 m 58 ls [.int q1]) := by
                intro H locs ls hl hP hD hS
                refine lv_istore (lv' := [(6, .int q1), (0, .ref ax), (1, .int l1), (2, .int l2), (3, .int l3), (4, .int l4), (5, .int l5)]) hx hb dX5_netFar_58 hl (by decide) rfl (fun ls hl => ?_)
                refine lv_iload_n hx hb dX5_netFar_60 rfl (lv_at hl 4 rfl) ?_
                refine lv_iload hx hb dX5_netFar_61 (lv_at hl 0 rfl) ?_
                refine lv_if_eq (tgt := 85) hx hb dX5_netFar_63 (by decide) (fun c5 => ?_) (fun c5 => ?_)
                · rw [if_pos c5] at h
                  refine lv_iconst (v := (0 : Int32)) hx hb dX5_netFar_85 (by decide) ?_
                  refine lv_iadd hx hb dX5_netFar_86 ?_
                  refine lv_istore_n (lv' := [(3, .int (l3 + (0 : Int32))), (6, .int q1), (0, .ref ax), (1, .int l1), (2, .int l2), (4, .int l4), (5, .int l5)]) hx hb dX5_netFar_87 rfl hl (by decide) rfl (fun ls hl => ?_)
                  refine lv_iinc (v := l5 + (1 : Int32)) (lv' := [(5, .int (l5 + (1 : Int32))), (3, .int (l3 + (0 : Int32))), (6, .int q1), (0, .ref ax), (1, .int l1), (2, .int l2), (4, .int l4)]) hx hb dX5_netFar_88 hl (k := 6) rfl rfl (by decide) rfl (fun ls hl => ?_)
                  refine lv_goto (tgt := 15) hx hb dX5_netFar_91 (by decide) ?_
                  exact ih l1 l2 (l3 + (0 : Int32)) l4 (l5 + (1 : Int32)) rs H locs ls h (lv_sub hl [3, 4, 5, 1, 6, 0] rfl) hP hD hS K
                · rw [if_neg c5] at h
                  refine lv_iload_n hx hb dX5_netFar_66 rfl (lv_at hl 2 rfl) ?_
                  refine lv_iload hx hb dX5_netFar_67 (lv_at hl 5 rfl) ?_
                  refine lv_ishr hx hb dX5_netFar_69 ?_
                  refine lv_iconst (v := (1 : Int32)) hx hb dX5_netFar_70 (by decide) ?_
                  refine lv_iand hx hb dX5_netFar_71 ?_
                  refine lv_iload_n hx hb dX5_netFar_72 rfl (lv_at hl 2 rfl) ?_
                  refine lv_iload hx hb dX5_netFar_73 (lv_at hl 6 rfl) ?_
                  refine lv_ishr hx hb dX5_netFar_75 ?_
                  refine lv_iconst (v := (1 : Int32)) hx hb dX5_netFar_76 (by decide) ?_
                  refine lv_iand hx hb dX5_netFar_77 ?_
                  refine lv_icmp_ne (tgt := 85) hx hb dX5_netFar_78 (by decide) (fun c4 => ?_) (fun c4 => ?_)
                  · rw [if_neg c4] at h
                    refine lv_iconst (v := (0 : Int32)) hx hb dX5_netFar_85 (by decide) ?_
                    refine lv_iadd hx hb dX5_netFar_86 ?_
                    refine lv_istore_n (lv' := [(3, .int (l3 + (0 : Int32))), (6, .int q1), (0, .ref ax), (1, .int l1), (2, .int l2), (4, .int l4), (5, .int l5)]) hx hb dX5_netFar_87 rfl hl (by decide) rfl (fun ls hl => ?_)
                    refine lv_iinc (v := l5 + (1 : Int32)) (lv' := [(5, .int (l5 + (1 : Int32))), (3, .int (l3 + (0 : Int32))), (6, .int q1), (0, .ref ax), (1, .int l1), (2, .int l2), (4, .int l4)]) hx hb dX5_netFar_88 hl (k := 6) rfl rfl (by decide) rfl (fun ls hl => ?_)
                    refine lv_goto (tgt := 15) hx hb dX5_netFar_91 (by decide) ?_
                    exact ih l1 l2 (l3 + (0 : Int32)) l4 (l5 + (1 : Int32)) rs H locs ls h (lv_sub hl [3, 4, 5, 1, 6, 0] rfl) hP hD hS K
                  · rw [if_pos c4] at h
                    refine lv_iconst (v := (1 : Int32)) hx hb dX5_netFar_81 (by decide) ?_
                    refine lv_goto (tgt := 86) hx hb dX5_netFar_82 (by decide) ?_
                    refine lv_iadd hx hb dX5_netFar_86 ?_
                    refine lv_istore_n (lv' := [(3, .int (l3 + (1 : Int32))), (6, .int q1), (0, .ref ax), (1, .int l1), (2, .int l2), (4, .int l4), (5, .int l5)]) hx hb dX5_netFar_87 rfl hl (by decide) rfl (fun ls hl => ?_)
                    refine lv_iinc (v := l5 + (1 : Int32)) (lv' := [(5, .int (l5 + (1 : Int32))), (3, .int (l3 + (1 : Int32))), (6, .int q1), (0, .ref ax), (1, .int l1), (2, .int l2), (4, .int l4)]) hx hb dX5_netFar_88 hl (k := 6) rfl rfl (by decide) rfl (fun ls hl => ?_)
                    refine lv_goto (tgt := 15) hx hb dX5_netFar_91 (by decide) ?_
                    exact ih l1 l2 (l3 + (1 : Int32)) l4 (l5 + (1 : Int32)) rs H locs ls h (lv_sub hl [3, 4, 5, 1, 6, 0] rfl) hP hD hS K
              replace h := hq1
              refine lv_icmp_ne (tgt := 57) hx hb dX5_netFar_35 (by decide) (fun c3 => ?_) (fun c3 => ?_)
              · rw [if_neg c3] at h
                refine lv_iconst (v := (0 : Int32)) hx hb dX5_netFar_57 (by decide) ?_
                have h0 := Option.some.inj h
                subst h0
                exact Jq1 H locs ls (lv_sub hl [0, 1, 2, 3, 4, 5] rfl) hP hD hS
              · rw [if_pos c3] at h
                refine lv_iload_n hx hb dX5_netFar_38 rfl (lv_at hl 2 rfl) ?_
                refine lv_iload hx hb dX5_netFar_39 (lv_at hl 4 rfl) ?_
                refine lv_ishr hx hb dX5_netFar_41 ?_
                refine lv_iload_n hx hb dX5_netFar_42 rfl (lv_at hl 2 rfl) ?_
                refine lv_iload hx hb dX5_netFar_43 (lv_at hl 5 rfl) ?_
                refine lv_ishr hx hb dX5_netFar_45 ?_
                refine lv_iand hx hb dX5_netFar_46 ?_
                refine lv_iconst (v := (1 : Int32)) hx hb dX5_netFar_47 (by decide) ?_
                refine lv_iand hx hb dX5_netFar_48 ?_
                refine lv_iconst (v := (1 : Int32)) hx hb dX5_netFar_49 (by decide) ?_
                refine lv_icmp_ne (tgt := 57) hx hb dX5_netFar_50 (by decide) (fun c2 => ?_) (fun c2 => ?_)
                · rw [if_neg c2] at h
                  refine lv_iconst (v := (0 : Int32)) hx hb dX5_netFar_57 (by decide) ?_
                  have h0 := Option.some.inj h
                  subst h0
                  exact Jq1 H locs ls (lv_sub hl [0, 1, 2, 3, 4, 5] rfl) hP hD hS
                · rw [if_pos c2] at h
                  refine lv_iconst (v := (1 : Int32)) hx hb dX5_netFar_53 (by decide) ?_
                  refine lv_goto (tgt := 58) hx hb dX5_netFar_54 (by decide) ?_
                  have h0 := Option.some.inj h
                  subst h0
                  exact Jq1 H locs ls (lv_sub hl [0, 1, 2, 3, 4, 5] rfl) hP hD hS
        obtain ⟨q8, hq8, h⟩ := bd_some h
        refine L15_6 FU l1 l2 l3 l4 (0 : Int32) q8 H locs ls hq8 (lv_sub hl [1, 2, 3, 4, 5, 0] rfl) hP hD hS (fun H locs ls hl hP hD hS => ?_)
        refine lv_iinc (v := l4 + (1 : Int32)) (lv' := [(4, .int (l4 + (1 : Int32))), (0, .ref ax), (1, .int l1), (2, .int l2), (3, .int q8.1), (5, .int q8.2)]) hx hb dX5_netFar_94 hl (k := 4) rfl rfl (by decide) rfl (fun ls hl => ?_)
        refine lv_goto (tgt := 5) hx hb dX5_netFar_97 (by decide) ?_
        exact ih l1 l2 q8.1 (l4 + (1 : Int32)) rs H locs ls h (lv_sub hl [1, 2, 3, 4, 0] rfl) hP hD hS K
  obtain ⟨q11, hq11, h⟩ := bd_some h
  refine L5_9 FU p0 p1 (0 : Int32) (0 : Int32) q11 H locs ls hq11 (lv_sub hl [2, 3, 4, 1, 0] rfl) hP hD hS (fun H locs ls hl hP hD hS => ?_)
  refine lv_iload_n hx hb dX5_netFar_100 rfl (lv_at hl 3 rfl) ?_
  have h0 := Option.some.inj h
  subst h0
  exact W.iret hx hb hr (fun t ht hW => ⟨⟨_, (), rfl, rfl, QW_mk hP hK hD ht hW⟩, hS.F ht⟩) hS.2.2 dX5_netFar_101

noncomputable def fX5_nearestNet_L4 (n : Nat) (l1 : Int32) (l2 : Int32) (l3 : Int32) (fxj : Nat → Int32) : Option (Int32 × Int32) := match n with
  | 0 => none
  | n + 1 => if (64 : Int32) ≤ l3 then (some (l2, l3)) else (bd (fX5_netFar fxj l3 l1) fun r1 => bd (fX5_netFar fxj l2 l1) fun r2 => if r2 ≤ r1 then (fX5_nearestNet_L4 n l1 l2 (l3 + (2 : Int32)) fxj) else (fX5_nearestNet_L4 n l1 l3 (l3 + (2 : Int32)) fxj))
theorem fX5_nearestNet_L4_0 (l1 : Int32) (l2 : Int32) (l3 : Int32) (fxj : Nat → Int32) : fX5_nearestNet_L4 0 l1 l2 l3 fxj = none := rfl
theorem fX5_nearestNet_L4_s (n : Nat) (l1 : Int32) (l2 : Int32) (l3 : Int32) (fxj : Nat → Int32) : fX5_nearestNet_L4 (n + 1) l1 l2 l3 fxj = if (64 : Int32) ≤ l3 then (some (l2, l3)) else (bd (fX5_netFar fxj l3 l1) fun r1 => bd (fX5_netFar fxj l2 l1) fun r2 => if r2 ≤ r1 then (fX5_nearestNet_L4 n l1 l2 (l3 + (2 : Int32)) fxj) else (fX5_nearestNet_L4 n l1 l3 (l3 + (2 : Int32)) fxj)) := rfl
noncomputable def fX5_nearestNet (fxj : Nat → Int32) (p0 : Int32) : Option (Int32) := bd (fX5_nearestNet_L4 FU p0 (0 : Int32) (2 : Int32) fxj) fun q6 => some q6.1
set_option maxHeartbeats 4000000 in
set_option maxRecDepth 100000 in
theorem c_X5_nearestNet (l : Launch) (dC : Nat → ClassId) (dI : Nat → Nat → Nat) (cy : ClassId) (ax axr axb axj axi axu : Nat) (sz : Nat) (vxn : Int32) (vxk : Int32) (vxA : Int64) (vxB : Int64) (vxC : Int64) (vxE : Int64) (fxj : Nat → Int32) (p0 : Int32) (res : Int32) (h : fX5_nearestNet fxj p0 = some res) : Met l yX5_nearestNet wsX5_nearestNet ({ frames := 1, cells := 0, slots := 0, locals := 26 }) (va_Pc [.ref ax, .int p0] (PW (dC, dI) cy sz [(ax, .inr (5, [.int vxn, .ref axr, .ref axb, .ref axj, .int vxk, .ref axi, .ref axu, .long vxA, .long vxB, .long vxC, .long vxE])), (axj, .inl (cy, 6, .inl fxj))])) (va_Qi (fun (r : Int32) (_ : Unit) => r = res) (QW (dC, dI) cy (va_A [(ax, .inr (5, [.int vxn, .ref axr, .ref axb, .ref axj, .int vxk, .ref axi, .ref axu, .long vxA, .long vxB, .long vxC, .long vxE])), (axj, .inl (cy, 6, .inl fxj))] sz) [(ax, .inr (5, [.int vxn, .ref axr, .ref axb, .ref axj, .int vxk, .ref axi, .ref axu, .long vxA, .long vxB, .long vxC, .long vxE])), (axj, .inl (cy, 6, .inl fxj))]) (va_A [(ax, .inr (5, [.int vxn, .ref axr, .ref axb, .ref axj, .int vxk, .ref axi, .ref axu, .long vxA, .long vxB, .long vxC, .long vxE])), (axj, .inl (cy, 6, .inl fxj))] sz)) 0 0 (va_A [(ax, .inr (5, [.int vxn, .ref axr, .ref axb, .ref axj, .int vxk, .ref axi, .ref axu, .long vxA, .long vxB, .long vxC, .long vxE])), (axj, .inl (cy, 6, .inl fxj))] sz) := by
  refine Met.ofW (cc := cX5_nearestNet) (maxL := 4) (ret := (some .int)) (by decide) rfl ?_
  intro p e s m args below meth c s₁ B hml hv
  obtain ⟨rfl, hsz, hP, hK, hD0, hN⟩ := hv
  have hx := B.exec
  have hb := B.bytes
  have hr := B.returns
  have hts := atoms_spec (ws := wsX5_nearestNet) B.pre
  have hown : s.vm.findClass RX5 = some m.cls := findClass_of_methodNamed B.named
  have hlocks := B.notSynchronized
  subst hsz
  have hD := hD0.self (sz := s.heap.size)
  clear hD0
  generalize hAe : va_A [(ax, .inr (5, [.int vxn, .ref axr, .ref axb, .ref axj, .int vxk, .ref axi, .ref axu, .long vxA, .long vxB, .long vxC, .long vxE])), (axj, .inl (cy, 6, .inl fxj))] s.heap.size = A at hD ⊢
  have hA : ∀ q : Nat, s.heap.size ≤ q → A q := fun q h => by rw [← hAe]; exact Or.inr h
  have hS : va_S A s.heap s.heap [] := va_S.rf
  have hl := lv_entry ([.ref ax, .int p0]) (n := 4) (Nat.le_of_ble_eq_true rfl)
  rw [lg_entry_eq]
  generalize (lg_sl ([.ref ax, .int p0]) ++ List.replicate (4 - (lg_sl ([.ref ax, .int p0])).length) Slot.unset).toArray = ls at hl ⊢
  replace hl : lv_has ls 4 [(0, .ref ax), (1, .int p0)] := hl
  replace hP : va_P (dC, dI) vwCl [(ax, .inr (5, [.int vxn, .ref axr, .ref axb, .ref axj, .int vxk, .ref axi, .ref axu, .long vxA, .long vxB, .long vxC, .long vxE])), (axj, .inl (cy, 6, .inl fxj))] s.heap := hP
  obtain ⟨locs, hlocs⟩ : ∃ lc : List Loc, lc = [] := ⟨_, rfl⟩
  rw [← hlocs] at hS ⊢
  obtain ⟨H, hH⟩ : ∃ H : Heap, H = s.heap := ⟨_, rfl⟩
  have hP2 := hP; rw [← hH] at hP2
  have hS2 : va_S A s.heap H locs := by rw [hH]; exact hS
  suffices hgo : W p l e (headSpec wsX5_nearestNet ({ frames := 1, cells := 0, slots := 0, locals := 26 })).room s m (([.ref ax, .int p0] : List Value).toArray) below meth c H locs 0 0 (MQ below (va_Qi (fun (r : Int32) (_ : Unit) => r = res) (QW (dC, dI) cy A [(ax, .inr (5, [.int vxn, .ref axr, .ref axb, .ref axj, .int vxk, .ref axi, .ref axu, .long vxA, .long vxB, .long vxC, .long vxE])), (axj, .inl (cy, 6, .inl fxj))]) A) (([.ref ax, .int p0] : List Value).toArray) s 0 0 A) (F0 m 0 ls []) by rw [hH] at hgo; exact hgo
  replace hP := hP2
  replace hS := hS2
  clear hP2 hS2
  unfold fX5_nearestNet at h
  refine lv_iconst (v := (0 : Int32)) hx hb dX5_nearestNet_0 (by decide) ?_
  refine lv_istore_n (lv' := [(2, .int (0 : Int32)), (0, .ref ax), (1, .int p0)]) hx hb dX5_nearestNet_1 rfl hl (by decide) rfl (fun ls hl => ?_)
  refine lv_iconst (v := (2 : Int32)) hx hb dX5_nearestNet_2 (by decide) ?_
  refine lv_istore_n (lv' := [(3, .int (2 : Int32)), (2, .int (0 : Int32)), (0, .ref ax), (1, .int p0)]) hx hb dX5_nearestNet_3 rfl hl (by decide) rfl (fun ls hl => ?_)
  have L4_4 : ∀ (n : Nat) (l1 : Int32) (l2 : Int32) (l3 : Int32) (rs : (Int32 × Int32)) (H : Heap) (locs : List Loc) (ls : Array Slot), fX5_nearestNet_L4 n l1 l2 l3 fxj = some rs → lv_has ls 4 [(0, .ref ax), (1, .int l1), (2, .int l2), (3, .int l3)] → va_P (dC, dI) vwCl [(ax, .inr (5, [.int vxn, .ref axr, .ref axb, .ref axj, .int vxk, .ref axi, .ref axu, .long vxA, .long vxB, .long vxC, .long vxE])), (axj, .inl (cy, 6, .inl fxj))] H → va_D A [(ax, .inr (5, [.int vxn, .ref axr, .ref axb, .ref axj, .int vxk, .ref axi, .ref axu, .long vxA, .long vxB, .long vxC, .long vxE])), (axj, .inl (cy, 6, .inl fxj))] → va_S A s.heap H locs → (∀ (H : Heap) (locs : List Loc) (ls : Array Slot), lv_has ls 4 [(0, .ref ax), (1, .int l1), (2, .int rs.1), (3, .int rs.2)] → va_P (dC, dI) vwCl [(ax, .inr (5, [.int vxn, .ref axr, .ref axb, .ref axj, .int vxk, .ref axi, .ref axu, .long vxA, .long vxB, .long vxC, .long vxE])), (axj, .inl (cy, 6, .inl fxj))] H → va_D A [(ax, .inr (5, [.int vxn, .ref axr, .ref axb, .ref axj, .int vxk, .ref axi, .ref axu, .long vxA, .long vxB, .long vxC, .long vxE])), (axj, .inl (cy, 6, .inl fxj))] → va_S A s.heap H locs → W p l e (headSpec wsX5_nearestNet ({ frames := 1, cells := 0, slots := 0, locals := 26 })).room s m (([.ref ax, .int p0] : List Value).toArray) below meth c H locs 0 0 (MQ below (va_Qi (fun (r : Int32) (_ : Unit) => r = res) (QW (dC, dI) cy A [(ax, .inr (5, [.int vxn, .ref axr, .ref axb, .ref axj, .int vxk, .ref axi, .ref axu, .long vxA, .long vxB, .long vxC, .long vxE])), (axj, .inl (cy, 6, .inl fxj))]) A) (([.ref ax, .int p0] : List Value).toArray) s 0 0 A) (F0 m 37 ls [])) → W p l e (headSpec wsX5_nearestNet ({ frames := 1, cells := 0, slots := 0, locals := 26 })).room s m (([.ref ax, .int p0] : List Value).toArray) below meth c H locs 0 0 (MQ below (va_Qi (fun (r : Int32) (_ : Unit) => r = res) (QW (dC, dI) cy A [(ax, .inr (5, [.int vxn, .ref axr, .ref axb, .ref axj, .int vxk, .ref axi, .ref axu, .long vxA, .long vxB, .long vxC, .long vxE])), (axj, .inl (cy, 6, .inl fxj))]) A) (([.ref ax, .int p0] : List Value).toArray) s 0 0 A) (F0 m 4 ls []) := by
    intro n
    induction n with
    | zero =>
      intro l1 l2 l3 rs H locs ls h
      rw [fX5_nearestNet_L4_0] at h
      cases h
    | succ n ih =>
      intro l1 l2 l3 rs H locs ls h hl hP hD hS K
      rw [fX5_nearestNet_L4_s] at h
      refine lv_iload_n hx hb dX5_nearestNet_4 rfl (lv_at hl 3 rfl) ?_
      refine lv_bipush (v := (64 : Int32)) hx hb dX5_nearestNet_5 (by decide) ?_
      refine lv_icmp_ge (tgt := 37) hx hb dX5_nearestNet_7 (by decide) (fun c4 => ?_) (fun c4 => ?_)
      · rw [if_pos c4] at h
        have h0 := Option.some.inj h
        subst h0
        exact K H locs ls (lv_sub hl [0, 1, 2, 3] rfl) hP hD hS
      · rw [if_neg c4] at h
        refine lv_aload_n hx hb dX5_nearestNet_10 rfl (lv_at hl 0 rfl) ?_
        refine lv_iload_n hx hb dX5_nearestNet_11 rfl (lv_at hl 3 rfl) ?_
        refine lv_iload_n hx hb dX5_nearestNet_12 rfl (lv_at hl 1 rfl) ?_
        obtain ⟨r1, hr1, h⟩ := bd_some h
        have hFc := va_free (wc := [(ax, .inr (5, [.int vxn, .ref axr, .ref axb, .ref axj, .int vxk, .ref axi, .ref axu, .long vxA, .long vxB, .long vxC, .long vxE])), (axj, .inl (cy, 6, .inl fxj))]) hD hS hA [0, 1] rfl
        refine va_calli (va_runV (As := [.int l3, .int l1]) (rest := []) ⟨hx, hb, hml, hown, hts⟩ (c_X5_netFar l dC dI cy ax axr axb axj axi axu H.size vxn vxk vxA vxB vxC vxE fxj l3 l1 r1 hr1) (cwV 2 hts gX5_nearestNet_X5_netFar rfl rfl rfl (by decide +kernel) ⟨Nat.le_of_ble_eq_true rfl, Nat.le_of_ble_eq_true rfl⟩) ⟨PW_fb, va_recv hK hP (ci := 5) (q0 := 0) rfl rfl, PW_pre (hP.sub (ws' := [(ax, .inr (5, [.int vxn, .ref axr, .ref axb, .ref axj, .int vxk, .ref axi, .ref axu, .long vxA, .long vxB, .long vxC, .long vxE])), (axj, .inl (cy, 6, .inl fxj))]) [0, 1] rfl) hK (hD.sub [0, 1] (by decide) rfl) hN⟩ rfl rfl hl.1 rfl (lv_room (Nat.le_of_ble_eq_true rfl)) dX5_nearestNet_13 ⟨Nat.zero_le _, Nat.zero_le _⟩) hS (fun q _ h => hFc q h) hFc (fun rz u t H locs ht hvm hw hB hz1 hk1 hS => ?_)
        obtain ⟨hP, hD⟩ := jn (wr := []) (w1 := [(ax, .inr (5, [.int vxn, .ref axr, .ref axb, .ref axj, .int vxk, .ref axi, .ref axu, .long vxA, .long vxB, .long vxC, .long vxE])), (axj, .inl (cy, 6, .inl fxj))]) (ws' := [(ax, .inr (5, [.int vxn, .ref axr, .ref axb, .ref axj, .int vxk, .ref axi, .ref axu, .long vxA, .long vxB, .long vxC, .long vxE])), (axj, .inl (cy, 6, .inl fxj))]) hP hD [0, 1] [] rfl rfl (by decide) (by decide) hk1 hFc hB ht [0, 1] rfl (by decide) rfl
        replace hw := hw.symm
        subst hw
        clear hFc hB hk1 hz1 hvm
        refine lv_aload_n hx hb dX5_nearestNet_16 rfl (lv_at hl 0 rfl) ?_
        refine lv_iload_n hx hb dX5_nearestNet_17 rfl (lv_at hl 2 rfl) ?_
        refine lv_iload_n hx hb dX5_nearestNet_18 rfl (lv_at hl 1 rfl) ?_
        obtain ⟨r2, hr2, h⟩ := bd_some h
        have hFc := va_free (wc := [(ax, .inr (5, [.int vxn, .ref axr, .ref axb, .ref axj, .int vxk, .ref axi, .ref axu, .long vxA, .long vxB, .long vxC, .long vxE])), (axj, .inl (cy, 6, .inl fxj))]) hD hS hA [0, 1] rfl
        refine va_calli (va_runV (As := [.int l2, .int l1]) (rest := [.int r1]) ⟨hx, hb, hml, hown, hts⟩ (c_X5_netFar l dC dI cy ax axr axb axj axi axu H.size vxn vxk vxA vxB vxC vxE fxj l2 l1 r2 hr2) (cwV 2 hts gX5_nearestNet_X5_netFar rfl rfl rfl (by decide +kernel) ⟨Nat.le_of_ble_eq_true rfl, Nat.le_of_ble_eq_true rfl⟩) ⟨PW_fb, va_recv hK hP (ci := 5) (q0 := 0) rfl rfl, PW_pre (hP.sub (ws' := [(ax, .inr (5, [.int vxn, .ref axr, .ref axb, .ref axj, .int vxk, .ref axi, .ref axu, .long vxA, .long vxB, .long vxC, .long vxE])), (axj, .inl (cy, 6, .inl fxj))]) [0, 1] rfl) hK (hD.sub [0, 1] (by decide) rfl) hN⟩ rfl rfl hl.1 rfl (lv_room (Nat.le_of_ble_eq_true rfl)) dX5_nearestNet_19 ⟨Nat.zero_le _, Nat.zero_le _⟩) hS (fun q _ h => hFc q h) hFc (fun rz u t H locs ht hvm hw hB hz1 hk1 hS => ?_)
        obtain ⟨hP, hD⟩ := jn (wr := []) (w1 := [(ax, .inr (5, [.int vxn, .ref axr, .ref axb, .ref axj, .int vxk, .ref axi, .ref axu, .long vxA, .long vxB, .long vxC, .long vxE])), (axj, .inl (cy, 6, .inl fxj))]) (ws' := [(ax, .inr (5, [.int vxn, .ref axr, .ref axb, .ref axj, .int vxk, .ref axi, .ref axu, .long vxA, .long vxB, .long vxC, .long vxE])), (axj, .inl (cy, 6, .inl fxj))]) hP hD [0, 1] [] rfl rfl (by decide) (by decide) hk1 hFc hB ht [0, 1] rfl (by decide) rfl
        replace hw := hw.symm
        subst hw
        clear hFc hB hk1 hz1 hvm
        refine lv_icmp_ge (tgt := 29) hx hb dX5_nearestNet_22 (by decide) (fun c3 => ?_) (fun c3 => ?_)
        · rw [if_pos c3] at h
          refine lv_iload_n hx hb dX5_nearestNet_29 rfl (lv_at hl 2 rfl) ?_
          refine lv_istore_n (lv' := [(2, .int l2), (0, .ref ax), (1, .int l1), (3, .int l3)]) hx hb dX5_nearestNet_30 rfl hl (by decide) rfl (fun ls hl => ?_)
          refine lv_iinc (v := l3 + (2 : Int32)) (lv' := [(3, .int (l3 + (2 : Int32))), (2, .int l2), (0, .ref ax), (1, .int l1)]) hx hb dX5_nearestNet_31 hl (k := 3) rfl rfl (by decide) rfl (fun ls hl => ?_)
          refine lv_goto (tgt := 4) hx hb dX5_nearestNet_34 (by decide) ?_
          exact ih l1 l2 (l3 + (2 : Int32)) rs H locs ls h (lv_sub hl [2, 3, 1, 0] rfl) hP hD hS K
        · rw [if_neg c3] at h
          refine lv_iload_n hx hb dX5_nearestNet_25 rfl (lv_at hl 3 rfl) ?_
          refine lv_goto (tgt := 30) hx hb dX5_nearestNet_26 (by decide) ?_
          refine lv_istore_n (lv' := [(2, .int l3), (0, .ref ax), (1, .int l1), (3, .int l3)]) hx hb dX5_nearestNet_30 rfl hl (by decide) rfl (fun ls hl => ?_)
          refine lv_iinc (v := l3 + (2 : Int32)) (lv' := [(3, .int (l3 + (2 : Int32))), (2, .int l3), (0, .ref ax), (1, .int l1)]) hx hb dX5_nearestNet_31 hl (k := 3) rfl rfl (by decide) rfl (fun ls hl => ?_)
          refine lv_goto (tgt := 4) hx hb dX5_nearestNet_34 (by decide) ?_
          exact ih l1 l3 (l3 + (2 : Int32)) rs H locs ls h (lv_sub hl [2, 3, 1, 0] rfl) hP hD hS K
  obtain ⟨q6, hq6, h⟩ := bd_some h
  refine L4_4 FU p0 (0 : Int32) (2 : Int32) q6 H locs ls hq6 (lv_sub hl [2, 3, 1, 0] rfl) hP hD hS (fun H locs ls hl hP hD hS => ?_)
  refine lv_iload_n hx hb dX5_nearestNet_37 rfl (lv_at hl 2 rfl) ?_
  have h0 := Option.some.inj h
  subst h0
  exact W.iret hx hb hr (fun t ht hW => ⟨⟨_, (), rfl, rfl, QW_mk hP hK hD ht hW⟩, hS.F ht⟩) hS.2.2 dX5_nearestNet_38

noncomputable def fX5_distanceOf (vxn : Int32) (fxr : Nat → Int32) (fxb : Nat → Int32) (fxj : Nat → Int32) (fxi : Nat → Int32) (fxu : Nat → Int32) (p0 : Int32) : Option (Int32 × (Nat → Int32) × (Nat → Int32)) := if (4 : Int32) ≤ p0 then (if p0 = (4 : Int32) then (bd (fX5_nearestTable fxb) fun r3 => bd (fX5_tableFar fxb r3) fun r4 => some (r4, fxi, fxu)) else (bd (fX5_nearestNet fxj (63 : Int32)) fun r1 => bd (fX5_netFar fxj r1 (63 : Int32)) fun r2 => some (r2, fxi, fxu))) else (bd (fX5_rowDistance vxn fxr fxi fxu p0) fun r6 => some (r6.1, r6.2.1, r6.2.2))
set_option maxHeartbeats 4000000 in
set_option maxRecDepth 100000 in
theorem c_X5_distanceOf (l : Launch) (dC : Nat → ClassId) (dI : Nat → Nat → Nat) (cy : ClassId) (ax axr axb axj axi axu : Nat) (sz : Nat) (vxn : Int32) (vxk : Int32) (vxA : Int64) (vxB : Int64) (vxC : Int64) (vxE : Int64) (fxr : Nat → Int32) (fxb : Nat → Int32) (fxj : Nat → Int32) (fxi : Nat → Int32) (fxu : Nat → Int32) (p0 : Int32) (res : Int32 × (Nat → Int32) × (Nat → Int32)) (h : fX5_distanceOf vxn fxr fxb fxj fxi fxu p0 = some res) : Met l yX5_distanceOf wsX5_distanceOf ({ frames := 4, cells := 0, slots := 0, locals := 94 }) (va_Pc [.ref ax, .int p0] (PW (dC, dI) cy sz [(ax, .inr (5, [.int vxn, .ref axr, .ref axb, .ref axj, .int vxk, .ref axi, .ref axu, .long vxA, .long vxB, .long vxC, .long vxE])), (axr, .inl (cy, 8, .inl fxr)), (axb, .inl (cy, 8, .inl fxb)), (axj, .inl (cy, 6, .inl fxj)), (axi, .inl (cy, 8, .inl fxi)), (axu, .inl (cy, 8, .inl fxu))])) (va_Qi (fun (r : Int32) (_ : Unit) => r = res.1) (QW (dC, dI) cy (va_A [(ax, .inr (5, [.int vxn, .ref axr, .ref axb, .ref axj, .int vxk, .ref axi, .ref axu, .long vxA, .long vxB, .long vxC, .long vxE])), (axr, .inl (cy, 8, .inl fxr)), (axb, .inl (cy, 8, .inl fxb)), (axj, .inl (cy, 6, .inl fxj)), (axi, .inl (cy, 8, .inl fxi)), (axu, .inl (cy, 8, .inl fxu))] sz) [(ax, .inr (5, [.int vxn, .ref axr, .ref axb, .ref axj, .int vxk, .ref axi, .ref axu, .long vxA, .long vxB, .long vxC, .long vxE])), (axr, .inl (cy, 8, .inl fxr)), (axb, .inl (cy, 8, .inl fxb)), (axj, .inl (cy, 6, .inl fxj)), (axi, .inl (cy, 8, .inl res.2.1)), (axu, .inl (cy, 8, .inl res.2.2))]) (va_A [(ax, .inr (5, [.int vxn, .ref axr, .ref axb, .ref axj, .int vxk, .ref axi, .ref axu, .long vxA, .long vxB, .long vxC, .long vxE])), (axr, .inl (cy, 8, .inl fxr)), (axb, .inl (cy, 8, .inl fxb)), (axj, .inl (cy, 6, .inl fxj)), (axi, .inl (cy, 8, .inl fxi)), (axu, .inl (cy, 8, .inl fxu))] sz)) 0 0 (va_A [(ax, .inr (5, [.int vxn, .ref axr, .ref axb, .ref axj, .int vxk, .ref axi, .ref axu, .long vxA, .long vxB, .long vxC, .long vxE])), (axr, .inl (cy, 8, .inl fxr)), (axb, .inl (cy, 8, .inl fxb)), (axj, .inl (cy, 6, .inl fxj)), (axi, .inl (cy, 8, .inl fxi)), (axu, .inl (cy, 8, .inl fxu))] sz) := by
  refine Met.ofW (cc := cX5_distanceOf) (maxL := 2) (ret := (some .int)) (by decide) rfl ?_
  intro p e s m args below meth c s₁ B hml hv
  obtain ⟨rfl, hsz, hP, hK, hD0, hN⟩ := hv
  have hx := B.exec
  have hb := B.bytes
  have hr := B.returns
  have hts := atoms_spec (ws := wsX5_distanceOf) B.pre
  have hown : s.vm.findClass RX5 = some m.cls := findClass_of_methodNamed B.named
  have hlocks := B.notSynchronized
  subst hsz
  have hD := hD0.self (sz := s.heap.size)
  clear hD0
  generalize hAe : va_A [(ax, .inr (5, [.int vxn, .ref axr, .ref axb, .ref axj, .int vxk, .ref axi, .ref axu, .long vxA, .long vxB, .long vxC, .long vxE])), (axr, .inl (cy, 8, .inl fxr)), (axb, .inl (cy, 8, .inl fxb)), (axj, .inl (cy, 6, .inl fxj)), (axi, .inl (cy, 8, .inl fxi)), (axu, .inl (cy, 8, .inl fxu))] s.heap.size = A at hD ⊢
  have hA : ∀ q : Nat, s.heap.size ≤ q → A q := fun q h => by rw [← hAe]; exact Or.inr h
  have hS : va_S A s.heap s.heap [] := va_S.rf
  have hl := lv_entry ([.ref ax, .int p0]) (n := 2) (Nat.le_of_ble_eq_true rfl)
  rw [lg_entry_eq]
  generalize (lg_sl ([.ref ax, .int p0]) ++ List.replicate (2 - (lg_sl ([.ref ax, .int p0])).length) Slot.unset).toArray = ls at hl ⊢
  replace hl : lv_has ls 2 [(0, .ref ax), (1, .int p0)] := hl
  replace hP : va_P (dC, dI) vwCl [(ax, .inr (5, [.int vxn, .ref axr, .ref axb, .ref axj, .int vxk, .ref axi, .ref axu, .long vxA, .long vxB, .long vxC, .long vxE])), (axr, .inl (cy, 8, .inl fxr)), (axb, .inl (cy, 8, .inl fxb)), (axj, .inl (cy, 6, .inl fxj)), (axi, .inl (cy, 8, .inl fxi)), (axu, .inl (cy, 8, .inl fxu))] s.heap := hP
  obtain ⟨locs, hlocs⟩ : ∃ lc : List Loc, lc = [] := ⟨_, rfl⟩
  rw [← hlocs] at hS ⊢
  obtain ⟨H, hH⟩ : ∃ H : Heap, H = s.heap := ⟨_, rfl⟩
  have hP2 := hP; rw [← hH] at hP2
  have hS2 : va_S A s.heap H locs := by rw [hH]; exact hS
  suffices hgo : W p l e (headSpec wsX5_distanceOf ({ frames := 4, cells := 0, slots := 0, locals := 94 })).room s m (([.ref ax, .int p0] : List Value).toArray) below meth c H locs 0 0 (MQ below (va_Qi (fun (r : Int32) (_ : Unit) => r = res.1) (QW (dC, dI) cy A [(ax, .inr (5, [.int vxn, .ref axr, .ref axb, .ref axj, .int vxk, .ref axi, .ref axu, .long vxA, .long vxB, .long vxC, .long vxE])), (axr, .inl (cy, 8, .inl fxr)), (axb, .inl (cy, 8, .inl fxb)), (axj, .inl (cy, 6, .inl fxj)), (axi, .inl (cy, 8, .inl res.2.1)), (axu, .inl (cy, 8, .inl res.2.2))]) A) (([.ref ax, .int p0] : List Value).toArray) s 0 0 A) (F0 m 0 ls []) by rw [hH] at hgo; exact hgo
  replace hP := hP2
  replace hS := hS2
  clear hP2 hS2
  unfold fX5_distanceOf at h
  refine lv_iload_n hx hb dX5_distanceOf_0 rfl (lv_at hl 1 rfl) ?_
  refine lv_iconst (v := (4 : Int32)) hx hb dX5_distanceOf_1 (by decide) ?_
  refine lv_icmp_ge (tgt := 13) hx hb dX5_distanceOf_2 (by decide) (fun c7 => ?_) (fun c7 => ?_)
  · rw [if_pos c7] at h
    refine lv_iload_n hx hb dX5_distanceOf_13 rfl (lv_at hl 1 rfl) ?_
    refine lv_iconst (v := (4 : Int32)) hx hb dX5_distanceOf_14 (by decide) ?_
    refine lv_icmp_ne (tgt := 29) hx hb dX5_distanceOf_15 (by decide) (fun c5 => ?_) (fun c5 => ?_)
    · rw [if_neg c5] at h
      refine lv_aload_n hx hb dX5_distanceOf_29 rfl (lv_at hl 0 rfl) ?_
      refine lv_aload_n hx hb dX5_distanceOf_30 rfl (lv_at hl 0 rfl) ?_
      refine lv_bipush (v := (63 : Int32)) hx hb dX5_distanceOf_31 (by decide) ?_
      obtain ⟨r1, hr1, h⟩ := bd_some h
      have hFc := va_free (wc := [(ax, .inr (5, [.int vxn, .ref axr, .ref axb, .ref axj, .int vxk, .ref axi, .ref axu, .long vxA, .long vxB, .long vxC, .long vxE])), (axj, .inl (cy, 6, .inl fxj))]) hD hS hA [0, 3] rfl
      refine va_calli (va_runV (As := [.int (63 : Int32)]) (rest := [.ref ax]) ⟨hx, hb, hml, hown, hts⟩ (c_X5_nearestNet l dC dI cy ax axr axb axj axi axu H.size vxn vxk vxA vxB vxC vxE fxj (63 : Int32) r1 hr1) (cwV 1 hts gX5_distanceOf_X5_nearestNet rfl rfl rfl (by decide +kernel) ⟨Nat.le_of_ble_eq_true rfl, Nat.le_of_ble_eq_true rfl⟩) ⟨PW_fb, va_recv hK hP (ci := 5) (q0 := 0) rfl rfl, PW_pre (hP.sub (ws' := [(ax, .inr (5, [.int vxn, .ref axr, .ref axb, .ref axj, .int vxk, .ref axi, .ref axu, .long vxA, .long vxB, .long vxC, .long vxE])), (axj, .inl (cy, 6, .inl fxj))]) [0, 3] rfl) hK (hD.sub [0, 3] (by decide) rfl) hN⟩ rfl rfl hl.1 rfl (lv_room (Nat.le_of_ble_eq_true rfl)) dX5_distanceOf_33 ⟨Nat.zero_le _, Nat.zero_le _⟩) hS (fun q _ h => hFc q h) hFc (fun rz u t H locs ht hvm hw hB hz1 hk1 hS => ?_)
      obtain ⟨hP, hD⟩ := jn (wr := [(axr, .inl (cy, 8, .inl fxr)), (axb, .inl (cy, 8, .inl fxb)), (axi, .inl (cy, 8, .inl fxi)), (axu, .inl (cy, 8, .inl fxu))]) (w1 := [(ax, .inr (5, [.int vxn, .ref axr, .ref axb, .ref axj, .int vxk, .ref axi, .ref axu, .long vxA, .long vxB, .long vxC, .long vxE])), (axj, .inl (cy, 6, .inl fxj))]) (ws' := [(ax, .inr (5, [.int vxn, .ref axr, .ref axb, .ref axj, .int vxk, .ref axi, .ref axu, .long vxA, .long vxB, .long vxC, .long vxE])), (axr, .inl (cy, 8, .inl fxr)), (axb, .inl (cy, 8, .inl fxb)), (axj, .inl (cy, 6, .inl fxj)), (axi, .inl (cy, 8, .inl fxi)), (axu, .inl (cy, 8, .inl fxu))]) hP hD [0, 3] [1, 2, 4, 5] rfl rfl (by decide) (by decide) hk1 hFc hB ht [4, 0, 1, 5, 2, 3] rfl (by decide) rfl
      replace hw := hw.symm
      subst hw
      clear hFc hB hk1 hz1 hvm
      refine lv_bipush (v := (63 : Int32)) hx hb dX5_distanceOf_36 (by decide) ?_
      obtain ⟨r2, hr2, h⟩ := bd_some h
      have hFc := va_free (wc := [(ax, .inr (5, [.int vxn, .ref axr, .ref axb, .ref axj, .int vxk, .ref axi, .ref axu, .long vxA, .long vxB, .long vxC, .long vxE])), (axj, .inl (cy, 6, .inl fxj))]) hD hS hA [0, 3] rfl
      refine va_calli (va_runV (As := [.int r1, .int (63 : Int32)]) (rest := []) ⟨hx, hb, hml, hown, hts⟩ (c_X5_netFar l dC dI cy ax axr axb axj axi axu H.size vxn vxk vxA vxB vxC vxE fxj r1 (63 : Int32) r2 hr2) (cwV 2 hts gX5_distanceOf_X5_netFar rfl rfl rfl (by decide +kernel) ⟨Nat.le_of_ble_eq_true rfl, Nat.le_of_ble_eq_true rfl⟩) ⟨PW_fb, va_recv hK hP (ci := 5) (q0 := 0) rfl rfl, PW_pre (hP.sub (ws' := [(ax, .inr (5, [.int vxn, .ref axr, .ref axb, .ref axj, .int vxk, .ref axi, .ref axu, .long vxA, .long vxB, .long vxC, .long vxE])), (axj, .inl (cy, 6, .inl fxj))]) [0, 3] rfl) hK (hD.sub [0, 3] (by decide) rfl) hN⟩ rfl rfl hl.1 rfl (lv_room (Nat.le_of_ble_eq_true rfl)) dX5_distanceOf_38 ⟨Nat.zero_le _, Nat.zero_le _⟩) hS (fun q _ h => hFc q h) hFc (fun rz u t H locs ht hvm hw hB hz1 hk1 hS => ?_)
      obtain ⟨hP, hD⟩ := jn (wr := [(axr, .inl (cy, 8, .inl fxr)), (axb, .inl (cy, 8, .inl fxb)), (axi, .inl (cy, 8, .inl fxi)), (axu, .inl (cy, 8, .inl fxu))]) (w1 := [(ax, .inr (5, [.int vxn, .ref axr, .ref axb, .ref axj, .int vxk, .ref axi, .ref axu, .long vxA, .long vxB, .long vxC, .long vxE])), (axj, .inl (cy, 6, .inl fxj))]) (ws' := [(ax, .inr (5, [.int vxn, .ref axr, .ref axb, .ref axj, .int vxk, .ref axi, .ref axu, .long vxA, .long vxB, .long vxC, .long vxE])), (axr, .inl (cy, 8, .inl fxr)), (axb, .inl (cy, 8, .inl fxb)), (axj, .inl (cy, 6, .inl fxj)), (axi, .inl (cy, 8, .inl fxi)), (axu, .inl (cy, 8, .inl fxu))]) hP hD [0, 3] [1, 2, 4, 5] rfl rfl (by decide) (by decide) hk1 hFc hB ht [4, 0, 1, 5, 2, 3] rfl (by decide) rfl
      replace hw := hw.symm
      subst hw
      clear hFc hB hk1 hz1 hvm
      have h0 := Option.some.inj h
      subst h0
      exact W.iret hx hb hr (fun t ht hW => ⟨⟨_, (), rfl, rfl, QW_mk hP hK hD ht hW⟩, hS.F ht⟩) hS.2.2 dX5_distanceOf_41
    · rw [if_pos c5] at h
      refine lv_aload_n hx hb dX5_distanceOf_18 rfl (lv_at hl 0 rfl) ?_
      refine lv_aload_n hx hb dX5_distanceOf_19 rfl (lv_at hl 0 rfl) ?_
      obtain ⟨r3, hr3, h⟩ := bd_some h
      have hFc := va_free (wc := [(ax, .inr (5, [.int vxn, .ref axr, .ref axb, .ref axj, .int vxk, .ref axi, .ref axu, .long vxA, .long vxB, .long vxC, .long vxE])), (axb, .inl (cy, 8, .inl fxb))]) hD hS hA [0, 2] rfl
      refine va_calli (va_runV (As := []) (rest := [.ref ax]) ⟨hx, hb, hml, hown, hts⟩ (c_X5_nearestTable l dC dI cy ax axr axb axj axi axu H.size vxn vxk vxA vxB vxC vxE fxb  r3 hr3) (cwV 0 hts gX5_distanceOf_X5_nearestTable rfl rfl rfl (by decide +kernel) ⟨Nat.le_of_ble_eq_true rfl, Nat.le_of_ble_eq_true rfl⟩) ⟨PW_fb, va_recv hK hP (ci := 5) (q0 := 0) rfl rfl, PW_pre (hP.sub (ws' := [(ax, .inr (5, [.int vxn, .ref axr, .ref axb, .ref axj, .int vxk, .ref axi, .ref axu, .long vxA, .long vxB, .long vxC, .long vxE])), (axb, .inl (cy, 8, .inl fxb))]) [0, 2] rfl) hK (hD.sub [0, 2] (by decide) rfl) hN⟩ rfl rfl hl.1 rfl (lv_room (Nat.le_of_ble_eq_true rfl)) dX5_distanceOf_20 ⟨Nat.zero_le _, Nat.zero_le _⟩) hS (fun q _ h => hFc q h) hFc (fun rz u t H locs ht hvm hw hB hz1 hk1 hS => ?_)
      obtain ⟨hP, hD⟩ := jn (wr := [(axr, .inl (cy, 8, .inl fxr)), (axj, .inl (cy, 6, .inl fxj)), (axi, .inl (cy, 8, .inl fxi)), (axu, .inl (cy, 8, .inl fxu))]) (w1 := [(ax, .inr (5, [.int vxn, .ref axr, .ref axb, .ref axj, .int vxk, .ref axi, .ref axu, .long vxA, .long vxB, .long vxC, .long vxE])), (axb, .inl (cy, 8, .inl fxb))]) (ws' := [(ax, .inr (5, [.int vxn, .ref axr, .ref axb, .ref axj, .int vxk, .ref axi, .ref axu, .long vxA, .long vxB, .long vxC, .long vxE])), (axr, .inl (cy, 8, .inl fxr)), (axb, .inl (cy, 8, .inl fxb)), (axj, .inl (cy, 6, .inl fxj)), (axi, .inl (cy, 8, .inl fxi)), (axu, .inl (cy, 8, .inl fxu))]) hP hD [0, 2] [1, 3, 4, 5] rfl rfl (by decide) (by decide) hk1 hFc hB ht [4, 0, 5, 1, 2, 3] rfl (by decide) rfl
      replace hw := hw.symm
      subst hw
      clear hFc hB hk1 hz1 hvm
      obtain ⟨r4, hr4, h⟩ := bd_some h
      have hFc := va_free (wc := [(ax, .inr (5, [.int vxn, .ref axr, .ref axb, .ref axj, .int vxk, .ref axi, .ref axu, .long vxA, .long vxB, .long vxC, .long vxE])), (axb, .inl (cy, 8, .inl fxb))]) hD hS hA [0, 2] rfl
      refine va_calli (va_runV (As := [.int r3]) (rest := []) ⟨hx, hb, hml, hown, hts⟩ (c_X5_tableFar l dC dI cy ax axr axb axj axi axu H.size vxn vxk vxA vxB vxC vxE fxb r3 r4 hr4) (cwV 1 hts gX5_distanceOf_X5_tableFar rfl rfl rfl (by decide +kernel) ⟨Nat.le_of_ble_eq_true rfl, Nat.le_of_ble_eq_true rfl⟩) ⟨PW_fb, va_recv hK hP (ci := 5) (q0 := 0) rfl rfl, PW_pre (hP.sub (ws' := [(ax, .inr (5, [.int vxn, .ref axr, .ref axb, .ref axj, .int vxk, .ref axi, .ref axu, .long vxA, .long vxB, .long vxC, .long vxE])), (axb, .inl (cy, 8, .inl fxb))]) [0, 2] rfl) hK (hD.sub [0, 2] (by decide) rfl) hN⟩ rfl rfl hl.1 rfl (lv_room (Nat.le_of_ble_eq_true rfl)) dX5_distanceOf_23 ⟨Nat.zero_le _, Nat.zero_le _⟩) hS (fun q _ h => hFc q h) hFc (fun rz u t H locs ht hvm hw hB hz1 hk1 hS => ?_)
      obtain ⟨hP, hD⟩ := jn (wr := [(axr, .inl (cy, 8, .inl fxr)), (axj, .inl (cy, 6, .inl fxj)), (axi, .inl (cy, 8, .inl fxi)), (axu, .inl (cy, 8, .inl fxu))]) (w1 := [(ax, .inr (5, [.int vxn, .ref axr, .ref axb, .ref axj, .int vxk, .ref axi, .ref axu, .long vxA, .long vxB, .long vxC, .long vxE])), (axb, .inl (cy, 8, .inl fxb))]) (ws' := [(ax, .inr (5, [.int vxn, .ref axr, .ref axb, .ref axj, .int vxk, .ref axi, .ref axu, .long vxA, .long vxB, .long vxC, .long vxE])), (axr, .inl (cy, 8, .inl fxr)), (axb, .inl (cy, 8, .inl fxb)), (axj, .inl (cy, 6, .inl fxj)), (axi, .inl (cy, 8, .inl fxi)), (axu, .inl (cy, 8, .inl fxu))]) hP hD [0, 2] [1, 3, 4, 5] rfl rfl (by decide) (by decide) hk1 hFc hB ht [4, 0, 5, 1, 2, 3] rfl (by decide) rfl
      replace hw := hw.symm
      subst hw
      clear hFc hB hk1 hz1 hvm
      refine lv_goto (tgt := 41) hx hb dX5_distanceOf_26 (by decide) ?_
      have h0 := Option.some.inj h
      subst h0
      exact W.iret hx hb hr (fun t ht hW => ⟨⟨_, (), rfl, rfl, QW_mk hP hK hD ht hW⟩, hS.F ht⟩) hS.2.2 dX5_distanceOf_41
  · rw [if_neg c7] at h
    refine lv_aload_n hx hb dX5_distanceOf_5 rfl (lv_at hl 0 rfl) ?_
    refine lv_iload_n hx hb dX5_distanceOf_6 rfl (lv_at hl 1 rfl) ?_
    obtain ⟨r6, hr6, h⟩ := bd_some h
    have hFc := va_free (wc := [(ax, .inr (5, [.int vxn, .ref axr, .ref axb, .ref axj, .int vxk, .ref axi, .ref axu, .long vxA, .long vxB, .long vxC, .long vxE])), (axr, .inl (cy, 8, .inl fxr)), (axi, .inl (cy, 8, .inl fxi)), (axu, .inl (cy, 8, .inl fxu))]) hD hS hA [0, 1, 4, 5] rfl
    refine va_calli (va_runV (As := [.int p0]) (rest := []) ⟨hx, hb, hml, hown, hts⟩ (c_X5_rowDistance l dC dI cy ax axr axb axj axi axu H.size vxn vxk vxA vxB vxC vxE fxr fxi fxu p0 r6 hr6) (cwV 1 hts gX5_distanceOf_X5_rowDistance rfl rfl rfl (by decide +kernel) ⟨Nat.le_of_ble_eq_true rfl, Nat.le_of_ble_eq_true rfl⟩) ⟨PW_fb, va_recv hK hP (ci := 5) (q0 := 0) rfl rfl, PW_pre (hP.sub (ws' := [(ax, .inr (5, [.int vxn, .ref axr, .ref axb, .ref axj, .int vxk, .ref axi, .ref axu, .long vxA, .long vxB, .long vxC, .long vxE])), (axr, .inl (cy, 8, .inl fxr)), (axi, .inl (cy, 8, .inl fxi)), (axu, .inl (cy, 8, .inl fxu))]) [0, 1, 4, 5] rfl) hK (hD.sub [0, 1, 4, 5] (by decide) rfl) hN⟩ rfl rfl hl.1 rfl (lv_room (Nat.le_of_ble_eq_true rfl)) dX5_distanceOf_7 ⟨Nat.zero_le _, Nat.zero_le _⟩) hS (fun q _ h => hFc q h) hFc (fun rz u t H locs ht hvm hw hB hz1 hk1 hS => ?_)
    obtain ⟨hP, hD⟩ := jn (wr := [(axb, .inl (cy, 8, .inl fxb)), (axj, .inl (cy, 6, .inl fxj))]) (w1 := [(ax, .inr (5, [.int vxn, .ref axr, .ref axb, .ref axj, .int vxk, .ref axi, .ref axu, .long vxA, .long vxB, .long vxC, .long vxE])), (axr, .inl (cy, 8, .inl fxr)), (axi, .inl (cy, 8, .inl r6.2.1)), (axu, .inl (cy, 8, .inl r6.2.2))]) (ws' := [(ax, .inr (5, [.int vxn, .ref axr, .ref axb, .ref axj, .int vxk, .ref axi, .ref axu, .long vxA, .long vxB, .long vxC, .long vxE])), (axr, .inl (cy, 8, .inl fxr)), (axb, .inl (cy, 8, .inl fxb)), (axj, .inl (cy, 6, .inl fxj)), (axi, .inl (cy, 8, .inl r6.2.1)), (axu, .inl (cy, 8, .inl r6.2.2))]) hP hD [0, 1, 4, 5] [2, 3] rfl rfl (by decide) (by decide) hk1 hFc hB ht [2, 3, 0, 1, 4, 5] rfl (by decide) rfl
    replace hw := hw.symm
    subst hw
    clear hFc hB hk1 hz1 hvm
    refine lv_goto (tgt := 41) hx hb dX5_distanceOf_10 (by decide) ?_
    have h0 := Option.some.inj h
    subst h0
    exact W.iret hx hb hr (fun t ht hW => ⟨⟨_, (), rfl, rfl, QW_mk hP hK hD ht hW⟩, hS.F ht⟩) hS.2.2 dX5_distanceOf_41

noncomputable def fX5_is (vxn : Int32) (fxr : Nat → Int32) (fxb : Nat → Int32) (fxj : Nat → Int32) (fxi : Nat → Int32) (fxu : Nat → Int32) (p0 : Int32) : Option (Int32 × (Nat → Int32) × (Nat → Int32)) := bd (fX5_isSubject p0) fun r1 => if r1 = 0 then (some ((-2 : Int32), fxi, fxu)) else (bd (fX5_distanceOf vxn fxr fxb fxj fxi fxu p0) fun r2 => if r2.1 = 0 then (some ((1 : Int32), r2.2.1, r2.2.2)) else (some ((0 : Int32), r2.2.1, r2.2.2)))
set_option maxHeartbeats 4000000 in
set_option maxRecDepth 100000 in
theorem c_X5_is (l : Launch) (dC : Nat → ClassId) (dI : Nat → Nat → Nat) (cy : ClassId) (ax axr axb axj axi axu : Nat) (sz : Nat) (vxn : Int32) (vxk : Int32) (vxA : Int64) (vxB : Int64) (vxC : Int64) (vxE : Int64) (fxr : Nat → Int32) (fxb : Nat → Int32) (fxj : Nat → Int32) (fxi : Nat → Int32) (fxu : Nat → Int32) (p0 : Int32) (res : Int32 × (Nat → Int32) × (Nat → Int32)) (h : fX5_is vxn fxr fxb fxj fxi fxu p0 = some res) : Met l yX5_is wsX5_is ({ frames := 5, cells := 0, slots := 0, locals := 115 }) (va_Pc [.ref ax, .int p0] (PW (dC, dI) cy sz [(ax, .inr (5, [.int vxn, .ref axr, .ref axb, .ref axj, .int vxk, .ref axi, .ref axu, .long vxA, .long vxB, .long vxC, .long vxE])), (axr, .inl (cy, 8, .inl fxr)), (axb, .inl (cy, 8, .inl fxb)), (axj, .inl (cy, 6, .inl fxj)), (axi, .inl (cy, 8, .inl fxi)), (axu, .inl (cy, 8, .inl fxu))])) (va_Qi (fun (r : Int32) (_ : Unit) => r = res.1) (QW (dC, dI) cy (va_A [(ax, .inr (5, [.int vxn, .ref axr, .ref axb, .ref axj, .int vxk, .ref axi, .ref axu, .long vxA, .long vxB, .long vxC, .long vxE])), (axr, .inl (cy, 8, .inl fxr)), (axb, .inl (cy, 8, .inl fxb)), (axj, .inl (cy, 6, .inl fxj)), (axi, .inl (cy, 8, .inl fxi)), (axu, .inl (cy, 8, .inl fxu))] sz) [(ax, .inr (5, [.int vxn, .ref axr, .ref axb, .ref axj, .int vxk, .ref axi, .ref axu, .long vxA, .long vxB, .long vxC, .long vxE])), (axr, .inl (cy, 8, .inl fxr)), (axb, .inl (cy, 8, .inl fxb)), (axj, .inl (cy, 6, .inl fxj)), (axi, .inl (cy, 8, .inl res.2.1)), (axu, .inl (cy, 8, .inl res.2.2))]) (va_A [(ax, .inr (5, [.int vxn, .ref axr, .ref axb, .ref axj, .int vxk, .ref axi, .ref axu, .long vxA, .long vxB, .long vxC, .long vxE])), (axr, .inl (cy, 8, .inl fxr)), (axb, .inl (cy, 8, .inl fxb)), (axj, .inl (cy, 6, .inl fxj)), (axi, .inl (cy, 8, .inl fxi)), (axu, .inl (cy, 8, .inl fxu))] sz)) 0 0 (va_A [(ax, .inr (5, [.int vxn, .ref axr, .ref axb, .ref axj, .int vxk, .ref axi, .ref axu, .long vxA, .long vxB, .long vxC, .long vxE])), (axr, .inl (cy, 8, .inl fxr)), (axb, .inl (cy, 8, .inl fxb)), (axj, .inl (cy, 6, .inl fxj)), (axi, .inl (cy, 8, .inl fxi)), (axu, .inl (cy, 8, .inl fxu))] sz) := by
  refine Met.ofW (cc := cX5_is) (maxL := 2) (ret := (some .int)) (by decide) rfl ?_
  intro p e s m args below meth c s₁ B hml hv
  obtain ⟨rfl, hsz, hP, hK, hD0, hN⟩ := hv
  have hx := B.exec
  have hb := B.bytes
  have hr := B.returns
  have hts := atoms_spec (ws := wsX5_is) B.pre
  have hown : s.vm.findClass RX5 = some m.cls := findClass_of_methodNamed B.named
  have hlocks := B.notSynchronized
  subst hsz
  have hD := hD0.self (sz := s.heap.size)
  clear hD0
  generalize hAe : va_A [(ax, .inr (5, [.int vxn, .ref axr, .ref axb, .ref axj, .int vxk, .ref axi, .ref axu, .long vxA, .long vxB, .long vxC, .long vxE])), (axr, .inl (cy, 8, .inl fxr)), (axb, .inl (cy, 8, .inl fxb)), (axj, .inl (cy, 6, .inl fxj)), (axi, .inl (cy, 8, .inl fxi)), (axu, .inl (cy, 8, .inl fxu))] s.heap.size = A at hD ⊢
  have hA : ∀ q : Nat, s.heap.size ≤ q → A q := fun q h => by rw [← hAe]; exact Or.inr h
  have hS : va_S A s.heap s.heap [] := va_S.rf
  have hl := lv_entry ([.ref ax, .int p0]) (n := 2) (Nat.le_of_ble_eq_true rfl)
  rw [lg_entry_eq]
  generalize (lg_sl ([.ref ax, .int p0]) ++ List.replicate (2 - (lg_sl ([.ref ax, .int p0])).length) Slot.unset).toArray = ls at hl ⊢
  replace hl : lv_has ls 2 [(0, .ref ax), (1, .int p0)] := hl
  replace hP : va_P (dC, dI) vwCl [(ax, .inr (5, [.int vxn, .ref axr, .ref axb, .ref axj, .int vxk, .ref axi, .ref axu, .long vxA, .long vxB, .long vxC, .long vxE])), (axr, .inl (cy, 8, .inl fxr)), (axb, .inl (cy, 8, .inl fxb)), (axj, .inl (cy, 6, .inl fxj)), (axi, .inl (cy, 8, .inl fxi)), (axu, .inl (cy, 8, .inl fxu))] s.heap := hP
  obtain ⟨locs, hlocs⟩ : ∃ lc : List Loc, lc = [] := ⟨_, rfl⟩
  rw [← hlocs] at hS ⊢
  obtain ⟨H, hH⟩ : ∃ H : Heap, H = s.heap := ⟨_, rfl⟩
  have hP2 := hP; rw [← hH] at hP2
  have hS2 : va_S A s.heap H locs := by rw [hH]; exact hS
  suffices hgo : W p l e (headSpec wsX5_is ({ frames := 5, cells := 0, slots := 0, locals := 115 })).room s m (([.ref ax, .int p0] : List Value).toArray) below meth c H locs 0 0 (MQ below (va_Qi (fun (r : Int32) (_ : Unit) => r = res.1) (QW (dC, dI) cy A [(ax, .inr (5, [.int vxn, .ref axr, .ref axb, .ref axj, .int vxk, .ref axi, .ref axu, .long vxA, .long vxB, .long vxC, .long vxE])), (axr, .inl (cy, 8, .inl fxr)), (axb, .inl (cy, 8, .inl fxb)), (axj, .inl (cy, 6, .inl fxj)), (axi, .inl (cy, 8, .inl res.2.1)), (axu, .inl (cy, 8, .inl res.2.2))]) A) (([.ref ax, .int p0] : List Value).toArray) s 0 0 A) (F0 m 0 ls []) by rw [hH] at hgo; exact hgo
  replace hP := hP2
  replace hS := hS2
  clear hP2 hS2
  unfold fX5_is at h
  refine lv_iload_n hx hb dX5_is_0 rfl (lv_at hl 1 rfl) ?_
  obtain ⟨r1, hr1, h⟩ := bd_some h
  have hFc := va_free (wc := []) hD hS hA [] rfl
  refine va_calli (va_runS (As := [.int p0]) (rest := []) ⟨hx, hb, hml, hown, hts⟩ (c_X5_isSubject l dC dI cy  H.size  p0 r1 hr1) (va_cwS 1 hts gX5_is_X5_isSubject rfl rfl rfl (by decide +kernel) ⟨Nat.le_of_ble_eq_true rfl, Nat.le_of_ble_eq_true rfl⟩) ⟨PW_fb, PW_pre (hP.sub (ws' := []) [] rfl) hK (hD.sub [] (by decide) rfl) hN⟩ rfl rfl hl.1 rfl (lv_room (Nat.le_of_ble_eq_true rfl)) dX5_is_1 ⟨Nat.zero_le _, Nat.zero_le _⟩) hS (fun q _ h => hFc q h) hFc (fun rz u t H locs ht hvm hw hB hz1 hk1 hS => ?_)
  obtain ⟨hP, hD⟩ := jn (wr := [(ax, .inr (5, [.int vxn, .ref axr, .ref axb, .ref axj, .int vxk, .ref axi, .ref axu, .long vxA, .long vxB, .long vxC, .long vxE])), (axr, .inl (cy, 8, .inl fxr)), (axb, .inl (cy, 8, .inl fxb)), (axj, .inl (cy, 6, .inl fxj)), (axi, .inl (cy, 8, .inl fxi)), (axu, .inl (cy, 8, .inl fxu))]) (w1 := []) (ws' := [(ax, .inr (5, [.int vxn, .ref axr, .ref axb, .ref axj, .int vxk, .ref axi, .ref axu, .long vxA, .long vxB, .long vxC, .long vxE])), (axr, .inl (cy, 8, .inl fxr)), (axb, .inl (cy, 8, .inl fxb)), (axj, .inl (cy, 6, .inl fxj)), (axi, .inl (cy, 8, .inl fxi)), (axu, .inl (cy, 8, .inl fxu))]) hP hD [] [0, 1, 2, 3, 4, 5] rfl rfl (by decide) (by decide) hk1 hFc hB ht [0, 1, 2, 3, 4, 5] rfl (by decide) rfl
  obtain ⟨hw, br1⟩ := hw
  replace hw := hw.symm
  subst hw
  clear hFc hB hk1 hz1 hvm
  refine lv_if_ne (tgt := 12) hx hb dX5_is_4 (by decide) (fun c4 => ?_) (fun c4 => ?_)
  · rw [if_neg c4] at h
    refine lv_aload_n hx hb dX5_is_12 rfl (lv_at hl 0 rfl) ?_
    refine lv_iload_n hx hb dX5_is_13 rfl (lv_at hl 1 rfl) ?_
    obtain ⟨r2, hr2, h⟩ := bd_some h
    have hFc := va_free (wc := [(ax, .inr (5, [.int vxn, .ref axr, .ref axb, .ref axj, .int vxk, .ref axi, .ref axu, .long vxA, .long vxB, .long vxC, .long vxE])), (axr, .inl (cy, 8, .inl fxr)), (axb, .inl (cy, 8, .inl fxb)), (axj, .inl (cy, 6, .inl fxj)), (axi, .inl (cy, 8, .inl fxi)), (axu, .inl (cy, 8, .inl fxu))]) hD hS hA [0, 1, 2, 3, 4, 5] rfl
    refine va_calli (va_runV (As := [.int p0]) (rest := []) ⟨hx, hb, hml, hown, hts⟩ (c_X5_distanceOf l dC dI cy ax axr axb axj axi axu H.size vxn vxk vxA vxB vxC vxE fxr fxb fxj fxi fxu p0 r2 hr2) (cwV 1 hts gX5_is_X5_distanceOf rfl rfl rfl (by decide +kernel) ⟨Nat.le_of_ble_eq_true rfl, Nat.le_of_ble_eq_true rfl⟩) ⟨PW_fb, va_recv hK hP (ci := 5) (q0 := 0) rfl rfl, PW_pre (hP.sub (ws' := [(ax, .inr (5, [.int vxn, .ref axr, .ref axb, .ref axj, .int vxk, .ref axi, .ref axu, .long vxA, .long vxB, .long vxC, .long vxE])), (axr, .inl (cy, 8, .inl fxr)), (axb, .inl (cy, 8, .inl fxb)), (axj, .inl (cy, 6, .inl fxj)), (axi, .inl (cy, 8, .inl fxi)), (axu, .inl (cy, 8, .inl fxu))]) [0, 1, 2, 3, 4, 5] rfl) hK (hD.sub [0, 1, 2, 3, 4, 5] (by decide) rfl) hN⟩ rfl rfl hl.1 rfl (lv_room (Nat.le_of_ble_eq_true rfl)) dX5_is_14 ⟨Nat.zero_le _, Nat.zero_le _⟩) hS (fun q _ h => hFc q h) hFc (fun rz u t H locs ht hvm hw hB hz1 hk1 hS => ?_)
    obtain ⟨hP, hD⟩ := jn (wr := []) (w1 := [(ax, .inr (5, [.int vxn, .ref axr, .ref axb, .ref axj, .int vxk, .ref axi, .ref axu, .long vxA, .long vxB, .long vxC, .long vxE])), (axr, .inl (cy, 8, .inl fxr)), (axb, .inl (cy, 8, .inl fxb)), (axj, .inl (cy, 6, .inl fxj)), (axi, .inl (cy, 8, .inl r2.2.1)), (axu, .inl (cy, 8, .inl r2.2.2))]) (ws' := [(ax, .inr (5, [.int vxn, .ref axr, .ref axb, .ref axj, .int vxk, .ref axi, .ref axu, .long vxA, .long vxB, .long vxC, .long vxE])), (axr, .inl (cy, 8, .inl fxr)), (axb, .inl (cy, 8, .inl fxb)), (axj, .inl (cy, 6, .inl fxj)), (axi, .inl (cy, 8, .inl r2.2.1)), (axu, .inl (cy, 8, .inl r2.2.2))]) hP hD [0, 1, 2, 3, 4, 5] [] rfl rfl (by decide) (by decide) hk1 hFc hB ht [0, 1, 2, 3, 4, 5] rfl (by decide) rfl
    replace hw := hw.symm
    subst hw
    clear hFc hB hk1 hz1 hvm
    refine lv_if_ne (tgt := 24) hx hb dX5_is_17 (by decide) (fun c3 => ?_) (fun c3 => ?_)
    · rw [if_neg c3] at h
      refine lv_iconst (v := (0 : Int32)) hx hb dX5_is_24 (by decide) ?_
      have h0 := Option.some.inj h
      subst h0
      exact W.iret hx hb hr (fun t ht hW => ⟨⟨_, (), rfl, rfl, QW_mk hP hK hD ht hW⟩, hS.F ht⟩) hS.2.2 dX5_is_25
    · rw [if_pos c3] at h
      refine lv_iconst (v := (1 : Int32)) hx hb dX5_is_20 (by decide) ?_
      refine lv_goto (tgt := 25) hx hb dX5_is_21 (by decide) ?_
      have h0 := Option.some.inj h
      subst h0
      exact W.iret hx hb hr (fun t ht hW => ⟨⟨_, (), rfl, rfl, QW_mk hP hK hD ht hW⟩, hS.F ht⟩) hS.2.2 dX5_is_25
  · rw [if_pos c4] at h
    refine lv_bipush (v := (-2 : Int32)) hx hb dX5_is_7 (by decide) ?_
    refine lv_goto (tgt := 25) hx hb dX5_is_9 (by decide) ?_
    have h0 := Option.some.inj h
    subst h0
    exact W.iret hx hb hr (fun t ht hW => ⟨⟨_, (), rfl, rfl, QW_mk hP hK hD ht hW⟩, hS.F ht⟩) hS.2.2 dX5_is_25

noncomputable def fX5_distance (vxn : Int32) (fxr : Nat → Int32) (fxb : Nat → Int32) (fxj : Nat → Int32) (fxi : Nat → Int32) (fxu : Nat → Int32) (p0 : Int32) : Option (Int32 × (Nat → Int32) × (Nat → Int32)) := bd (fX5_isSubject p0) fun r1 => if r1 = 0 then (some ((-2 : Int32), fxi, fxu)) else (bd (fX5_distanceOf vxn fxr fxb fxj fxi fxu p0) fun r2 => some (r2.1, r2.2.1, r2.2.2))
set_option maxHeartbeats 4000000 in
set_option maxRecDepth 100000 in
theorem c_X5_distance (l : Launch) (dC : Nat → ClassId) (dI : Nat → Nat → Nat) (cy : ClassId) (ax axr axb axj axi axu : Nat) (sz : Nat) (vxn : Int32) (vxk : Int32) (vxA : Int64) (vxB : Int64) (vxC : Int64) (vxE : Int64) (fxr : Nat → Int32) (fxb : Nat → Int32) (fxj : Nat → Int32) (fxi : Nat → Int32) (fxu : Nat → Int32) (p0 : Int32) (res : Int32 × (Nat → Int32) × (Nat → Int32)) (h : fX5_distance vxn fxr fxb fxj fxi fxu p0 = some res) : Met l yX5_distance wsX5_distance ({ frames := 5, cells := 0, slots := 0, locals := 115 }) (va_Pc [.ref ax, .int p0] (PW (dC, dI) cy sz [(ax, .inr (5, [.int vxn, .ref axr, .ref axb, .ref axj, .int vxk, .ref axi, .ref axu, .long vxA, .long vxB, .long vxC, .long vxE])), (axr, .inl (cy, 8, .inl fxr)), (axb, .inl (cy, 8, .inl fxb)), (axj, .inl (cy, 6, .inl fxj)), (axi, .inl (cy, 8, .inl fxi)), (axu, .inl (cy, 8, .inl fxu))])) (va_Qi (fun (r : Int32) (_ : Unit) => r = res.1) (QW (dC, dI) cy (va_A [(ax, .inr (5, [.int vxn, .ref axr, .ref axb, .ref axj, .int vxk, .ref axi, .ref axu, .long vxA, .long vxB, .long vxC, .long vxE])), (axr, .inl (cy, 8, .inl fxr)), (axb, .inl (cy, 8, .inl fxb)), (axj, .inl (cy, 6, .inl fxj)), (axi, .inl (cy, 8, .inl fxi)), (axu, .inl (cy, 8, .inl fxu))] sz) [(ax, .inr (5, [.int vxn, .ref axr, .ref axb, .ref axj, .int vxk, .ref axi, .ref axu, .long vxA, .long vxB, .long vxC, .long vxE])), (axr, .inl (cy, 8, .inl fxr)), (axb, .inl (cy, 8, .inl fxb)), (axj, .inl (cy, 6, .inl fxj)), (axi, .inl (cy, 8, .inl res.2.1)), (axu, .inl (cy, 8, .inl res.2.2))]) (va_A [(ax, .inr (5, [.int vxn, .ref axr, .ref axb, .ref axj, .int vxk, .ref axi, .ref axu, .long vxA, .long vxB, .long vxC, .long vxE])), (axr, .inl (cy, 8, .inl fxr)), (axb, .inl (cy, 8, .inl fxb)), (axj, .inl (cy, 6, .inl fxj)), (axi, .inl (cy, 8, .inl fxi)), (axu, .inl (cy, 8, .inl fxu))] sz)) 0 0 (va_A [(ax, .inr (5, [.int vxn, .ref axr, .ref axb, .ref axj, .int vxk, .ref axi, .ref axu, .long vxA, .long vxB, .long vxC, .long vxE])), (axr, .inl (cy, 8, .inl fxr)), (axb, .inl (cy, 8, .inl fxb)), (axj, .inl (cy, 6, .inl fxj)), (axi, .inl (cy, 8, .inl fxi)), (axu, .inl (cy, 8, .inl fxu))] sz) := by
  refine Met.ofW (cc := cX5_distance) (maxL := 2) (ret := (some .int)) (by decide) rfl ?_
  intro p e s m args below meth c s₁ B hml hv
  obtain ⟨rfl, hsz, hP, hK, hD0, hN⟩ := hv
  have hx := B.exec
  have hb := B.bytes
  have hr := B.returns
  have hts := atoms_spec (ws := wsX5_distance) B.pre
  have hown : s.vm.findClass RX5 = some m.cls := findClass_of_methodNamed B.named
  have hlocks := B.notSynchronized
  subst hsz
  have hD := hD0.self (sz := s.heap.size)
  clear hD0
  generalize hAe : va_A [(ax, .inr (5, [.int vxn, .ref axr, .ref axb, .ref axj, .int vxk, .ref axi, .ref axu, .long vxA, .long vxB, .long vxC, .long vxE])), (axr, .inl (cy, 8, .inl fxr)), (axb, .inl (cy, 8, .inl fxb)), (axj, .inl (cy, 6, .inl fxj)), (axi, .inl (cy, 8, .inl fxi)), (axu, .inl (cy, 8, .inl fxu))] s.heap.size = A at hD ⊢
  have hA : ∀ q : Nat, s.heap.size ≤ q → A q := fun q h => by rw [← hAe]; exact Or.inr h
  have hS : va_S A s.heap s.heap [] := va_S.rf
  have hl := lv_entry ([.ref ax, .int p0]) (n := 2) (Nat.le_of_ble_eq_true rfl)
  rw [lg_entry_eq]
  generalize (lg_sl ([.ref ax, .int p0]) ++ List.replicate (2 - (lg_sl ([.ref ax, .int p0])).length) Slot.unset).toArray = ls at hl ⊢
  replace hl : lv_has ls 2 [(0, .ref ax), (1, .int p0)] := hl
  replace hP : va_P (dC, dI) vwCl [(ax, .inr (5, [.int vxn, .ref axr, .ref axb, .ref axj, .int vxk, .ref axi, .ref axu, .long vxA, .long vxB, .long vxC, .long vxE])), (axr, .inl (cy, 8, .inl fxr)), (axb, .inl (cy, 8, .inl fxb)), (axj, .inl (cy, 6, .inl fxj)), (axi, .inl (cy, 8, .inl fxi)), (axu, .inl (cy, 8, .inl fxu))] s.heap := hP
  obtain ⟨locs, hlocs⟩ : ∃ lc : List Loc, lc = [] := ⟨_, rfl⟩
  rw [← hlocs] at hS ⊢
  obtain ⟨H, hH⟩ : ∃ H : Heap, H = s.heap := ⟨_, rfl⟩
  have hP2 := hP; rw [← hH] at hP2
  have hS2 : va_S A s.heap H locs := by rw [hH]; exact hS
  suffices hgo : W p l e (headSpec wsX5_distance ({ frames := 5, cells := 0, slots := 0, locals := 115 })).room s m (([.ref ax, .int p0] : List Value).toArray) below meth c H locs 0 0 (MQ below (va_Qi (fun (r : Int32) (_ : Unit) => r = res.1) (QW (dC, dI) cy A [(ax, .inr (5, [.int vxn, .ref axr, .ref axb, .ref axj, .int vxk, .ref axi, .ref axu, .long vxA, .long vxB, .long vxC, .long vxE])), (axr, .inl (cy, 8, .inl fxr)), (axb, .inl (cy, 8, .inl fxb)), (axj, .inl (cy, 6, .inl fxj)), (axi, .inl (cy, 8, .inl res.2.1)), (axu, .inl (cy, 8, .inl res.2.2))]) A) (([.ref ax, .int p0] : List Value).toArray) s 0 0 A) (F0 m 0 ls []) by rw [hH] at hgo; exact hgo
  replace hP := hP2
  replace hS := hS2
  clear hP2 hS2
  unfold fX5_distance at h
  refine lv_iload_n hx hb dX5_distance_0 rfl (lv_at hl 1 rfl) ?_
  obtain ⟨r1, hr1, h⟩ := bd_some h
  have hFc := va_free (wc := []) hD hS hA [] rfl
  refine va_calli (va_runS (As := [.int p0]) (rest := []) ⟨hx, hb, hml, hown, hts⟩ (c_X5_isSubject l dC dI cy  H.size  p0 r1 hr1) (va_cwS 1 hts gX5_distance_X5_isSubject rfl rfl rfl (by decide +kernel) ⟨Nat.le_of_ble_eq_true rfl, Nat.le_of_ble_eq_true rfl⟩) ⟨PW_fb, PW_pre (hP.sub (ws' := []) [] rfl) hK (hD.sub [] (by decide) rfl) hN⟩ rfl rfl hl.1 rfl (lv_room (Nat.le_of_ble_eq_true rfl)) dX5_distance_1 ⟨Nat.zero_le _, Nat.zero_le _⟩) hS (fun q _ h => hFc q h) hFc (fun rz u t H locs ht hvm hw hB hz1 hk1 hS => ?_)
  obtain ⟨hP, hD⟩ := jn (wr := [(ax, .inr (5, [.int vxn, .ref axr, .ref axb, .ref axj, .int vxk, .ref axi, .ref axu, .long vxA, .long vxB, .long vxC, .long vxE])), (axr, .inl (cy, 8, .inl fxr)), (axb, .inl (cy, 8, .inl fxb)), (axj, .inl (cy, 6, .inl fxj)), (axi, .inl (cy, 8, .inl fxi)), (axu, .inl (cy, 8, .inl fxu))]) (w1 := []) (ws' := [(ax, .inr (5, [.int vxn, .ref axr, .ref axb, .ref axj, .int vxk, .ref axi, .ref axu, .long vxA, .long vxB, .long vxC, .long vxE])), (axr, .inl (cy, 8, .inl fxr)), (axb, .inl (cy, 8, .inl fxb)), (axj, .inl (cy, 6, .inl fxj)), (axi, .inl (cy, 8, .inl fxi)), (axu, .inl (cy, 8, .inl fxu))]) hP hD [] [0, 1, 2, 3, 4, 5] rfl rfl (by decide) (by decide) hk1 hFc hB ht [0, 1, 2, 3, 4, 5] rfl (by decide) rfl
  obtain ⟨hw, br1⟩ := hw
  replace hw := hw.symm
  subst hw
  clear hFc hB hk1 hz1 hvm
  refine lv_if_eq (tgt := 15) hx hb dX5_distance_4 (by decide) (fun c3 => ?_) (fun c3 => ?_)
  · rw [if_pos c3] at h
    refine lv_bipush (v := (-2 : Int32)) hx hb dX5_distance_15 (by decide) ?_
    have h0 := Option.some.inj h
    subst h0
    exact W.iret hx hb hr (fun t ht hW => ⟨⟨_, (), rfl, rfl, QW_mk hP hK hD ht hW⟩, hS.F ht⟩) hS.2.2 dX5_distance_17
  · rw [if_neg c3] at h
    refine lv_aload_n hx hb dX5_distance_7 rfl (lv_at hl 0 rfl) ?_
    refine lv_iload_n hx hb dX5_distance_8 rfl (lv_at hl 1 rfl) ?_
    obtain ⟨r2, hr2, h⟩ := bd_some h
    have hFc := va_free (wc := [(ax, .inr (5, [.int vxn, .ref axr, .ref axb, .ref axj, .int vxk, .ref axi, .ref axu, .long vxA, .long vxB, .long vxC, .long vxE])), (axr, .inl (cy, 8, .inl fxr)), (axb, .inl (cy, 8, .inl fxb)), (axj, .inl (cy, 6, .inl fxj)), (axi, .inl (cy, 8, .inl fxi)), (axu, .inl (cy, 8, .inl fxu))]) hD hS hA [0, 1, 2, 3, 4, 5] rfl
    refine va_calli (va_runV (As := [.int p0]) (rest := []) ⟨hx, hb, hml, hown, hts⟩ (c_X5_distanceOf l dC dI cy ax axr axb axj axi axu H.size vxn vxk vxA vxB vxC vxE fxr fxb fxj fxi fxu p0 r2 hr2) (cwV 1 hts gX5_distance_X5_distanceOf rfl rfl rfl (by decide +kernel) ⟨Nat.le_of_ble_eq_true rfl, Nat.le_of_ble_eq_true rfl⟩) ⟨PW_fb, va_recv hK hP (ci := 5) (q0 := 0) rfl rfl, PW_pre (hP.sub (ws' := [(ax, .inr (5, [.int vxn, .ref axr, .ref axb, .ref axj, .int vxk, .ref axi, .ref axu, .long vxA, .long vxB, .long vxC, .long vxE])), (axr, .inl (cy, 8, .inl fxr)), (axb, .inl (cy, 8, .inl fxb)), (axj, .inl (cy, 6, .inl fxj)), (axi, .inl (cy, 8, .inl fxi)), (axu, .inl (cy, 8, .inl fxu))]) [0, 1, 2, 3, 4, 5] rfl) hK (hD.sub [0, 1, 2, 3, 4, 5] (by decide) rfl) hN⟩ rfl rfl hl.1 rfl (lv_room (Nat.le_of_ble_eq_true rfl)) dX5_distance_9 ⟨Nat.zero_le _, Nat.zero_le _⟩) hS (fun q _ h => hFc q h) hFc (fun rz u t H locs ht hvm hw hB hz1 hk1 hS => ?_)
    obtain ⟨hP, hD⟩ := jn (wr := []) (w1 := [(ax, .inr (5, [.int vxn, .ref axr, .ref axb, .ref axj, .int vxk, .ref axi, .ref axu, .long vxA, .long vxB, .long vxC, .long vxE])), (axr, .inl (cy, 8, .inl fxr)), (axb, .inl (cy, 8, .inl fxb)), (axj, .inl (cy, 6, .inl fxj)), (axi, .inl (cy, 8, .inl r2.2.1)), (axu, .inl (cy, 8, .inl r2.2.2))]) (ws' := [(ax, .inr (5, [.int vxn, .ref axr, .ref axb, .ref axj, .int vxk, .ref axi, .ref axu, .long vxA, .long vxB, .long vxC, .long vxE])), (axr, .inl (cy, 8, .inl fxr)), (axb, .inl (cy, 8, .inl fxb)), (axj, .inl (cy, 6, .inl fxj)), (axi, .inl (cy, 8, .inl r2.2.1)), (axu, .inl (cy, 8, .inl r2.2.2))]) hP hD [0, 1, 2, 3, 4, 5] [] rfl rfl (by decide) (by decide) hk1 hFc hB ht [0, 1, 2, 3, 4, 5] rfl (by decide) rfl
    replace hw := hw.symm
    subst hw
    clear hFc hB hk1 hz1 hvm
    refine lv_goto (tgt := 17) hx hb dX5_distance_12 (by decide) ?_
    have h0 := Option.some.inj h
    subst h0
    exact W.iret hx hb hr (fun t ht hW => ⟨⟨_, (), rfl, rfl, QW_mk hP hK hD ht hW⟩, hS.F ht⟩) hS.2.2 dX5_distance_17

noncomputable def fX5_nearest (vxn : Int32) (fxr : Nat → Int32) (fxb : Nat → Int32) (fxj : Nat → Int32) (fxi : Nat → Int32) (fxu : Nat → Int32) (p0 : Int32) (p1 : Int32) : Option (Int32 × (Nat → Int32) × (Nat → Int32)) := bd (fX5_isSubject p0) fun r1 => if r1 = 0 then (some ((-2 : Int32), fxi, fxu)) else (if (4 : Int32) ≤ p0 then (if p1 = 0 then (if (4 : Int32) ≤ p0 then (if p0 = (4 : Int32) then (bd (fX5_nearestTable fxb) fun r3 => some (r3, fxi, fxu)) else (bd (fX5_nearestNet fxj (63 : Int32)) fun r2 => some (r2, fxi, fxu))) else (bd (fX5_findNearest vxn fxr fxi fxu p0) fun r5 => gin p1 8 (some (r5.1 p1.toNatClampNeg, r5.1, r5.2)))) else (some ((-2 : Int32), fxi, fxu))) else (bd (fX5_isPlace vxn p1) fun r8 => if r8 = 0 then (some ((-2 : Int32), fxi, fxu)) else (if (4 : Int32) ≤ p0 then (if p0 = (4 : Int32) then (bd (fX5_nearestTable fxb) fun r10 => some (r10, fxi, fxu)) else (bd (fX5_nearestNet fxj (63 : Int32)) fun r9 => some (r9, fxi, fxu))) else (bd (fX5_findNearest vxn fxr fxi fxu p0) fun r12 => gin p1 8 (some (r12.1 p1.toNatClampNeg, r12.1, r12.2))))))
set_option maxHeartbeats 4000000 in
set_option maxRecDepth 100000 in
theorem c_X5_nearest (l : Launch) (dC : Nat → ClassId) (dI : Nat → Nat → Nat) (cy : ClassId) (ax axr axb axj axi axu : Nat) (sz : Nat) (vxn : Int32) (vxk : Int32) (vxA : Int64) (vxB : Int64) (vxC : Int64) (vxE : Int64) (fxr : Nat → Int32) (fxb : Nat → Int32) (fxj : Nat → Int32) (fxi : Nat → Int32) (fxu : Nat → Int32) (p0 : Int32) (p1 : Int32) (res : Int32 × (Nat → Int32) × (Nat → Int32)) (h : fX5_nearest vxn fxr fxb fxj fxi fxu p0 p1 = some res) : Met l yX5_nearest wsX5_nearest ({ frames := 5, cells := 0, slots := 0, locals := 120 }) (va_Pc [.ref ax, .int p0, .int p1] (PW (dC, dI) cy sz [(ax, .inr (5, [.int vxn, .ref axr, .ref axb, .ref axj, .int vxk, .ref axi, .ref axu, .long vxA, .long vxB, .long vxC, .long vxE])), (axr, .inl (cy, 8, .inl fxr)), (axb, .inl (cy, 8, .inl fxb)), (axj, .inl (cy, 6, .inl fxj)), (axi, .inl (cy, 8, .inl fxi)), (axu, .inl (cy, 8, .inl fxu))])) (va_Qi (fun (r : Int32) (_ : Unit) => r = res.1) (QW (dC, dI) cy (va_A [(ax, .inr (5, [.int vxn, .ref axr, .ref axb, .ref axj, .int vxk, .ref axi, .ref axu, .long vxA, .long vxB, .long vxC, .long vxE])), (axr, .inl (cy, 8, .inl fxr)), (axb, .inl (cy, 8, .inl fxb)), (axj, .inl (cy, 6, .inl fxj)), (axi, .inl (cy, 8, .inl fxi)), (axu, .inl (cy, 8, .inl fxu))] sz) [(ax, .inr (5, [.int vxn, .ref axr, .ref axb, .ref axj, .int vxk, .ref axi, .ref axu, .long vxA, .long vxB, .long vxC, .long vxE])), (axr, .inl (cy, 8, .inl fxr)), (axb, .inl (cy, 8, .inl fxb)), (axj, .inl (cy, 6, .inl fxj)), (axi, .inl (cy, 8, .inl res.2.1)), (axu, .inl (cy, 8, .inl res.2.2))]) (va_A [(ax, .inr (5, [.int vxn, .ref axr, .ref axb, .ref axj, .int vxk, .ref axi, .ref axu, .long vxA, .long vxB, .long vxC, .long vxE])), (axr, .inl (cy, 8, .inl fxr)), (axb, .inl (cy, 8, .inl fxb)), (axj, .inl (cy, 6, .inl fxj)), (axi, .inl (cy, 8, .inl fxi)), (axu, .inl (cy, 8, .inl fxu))] sz)) 0 0 (va_A [(ax, .inr (5, [.int vxn, .ref axr, .ref axb, .ref axj, .int vxk, .ref axi, .ref axu, .long vxA, .long vxB, .long vxC, .long vxE])), (axr, .inl (cy, 8, .inl fxr)), (axb, .inl (cy, 8, .inl fxb)), (axj, .inl (cy, 6, .inl fxj)), (axi, .inl (cy, 8, .inl fxi)), (axu, .inl (cy, 8, .inl fxu))] sz) := by
  refine Met.ofW (cc := cX5_nearest) (maxL := 3) (ret := (some .int)) (by decide) rfl ?_
  intro p e s m args below meth c s₁ B hml hv
  obtain ⟨rfl, hsz, hP, hK, hD0, hN⟩ := hv
  have hx := B.exec
  have hb := B.bytes
  have hr := B.returns
  have hts := atoms_spec (ws := wsX5_nearest) B.pre
  have hown : s.vm.findClass RX5 = some m.cls := findClass_of_methodNamed B.named
  have hlocks := B.notSynchronized
  subst hsz
  have hD := hD0.self (sz := s.heap.size)
  clear hD0
  generalize hAe : va_A [(ax, .inr (5, [.int vxn, .ref axr, .ref axb, .ref axj, .int vxk, .ref axi, .ref axu, .long vxA, .long vxB, .long vxC, .long vxE])), (axr, .inl (cy, 8, .inl fxr)), (axb, .inl (cy, 8, .inl fxb)), (axj, .inl (cy, 6, .inl fxj)), (axi, .inl (cy, 8, .inl fxi)), (axu, .inl (cy, 8, .inl fxu))] s.heap.size = A at hD ⊢
  have hA : ∀ q : Nat, s.heap.size ≤ q → A q := fun q h => by rw [← hAe]; exact Or.inr h
  have hS : va_S A s.heap s.heap [] := va_S.rf
  have hl := lv_entry ([.ref ax, .int p0, .int p1]) (n := 3) (Nat.le_of_ble_eq_true rfl)
  rw [lg_entry_eq]
  generalize (lg_sl ([.ref ax, .int p0, .int p1]) ++ List.replicate (3 - (lg_sl ([.ref ax, .int p0, .int p1])).length) Slot.unset).toArray = ls at hl ⊢
  replace hl : lv_has ls 3 [(0, .ref ax), (1, .int p0), (2, .int p1)] := hl
  replace hP : va_P (dC, dI) vwCl [(ax, .inr (5, [.int vxn, .ref axr, .ref axb, .ref axj, .int vxk, .ref axi, .ref axu, .long vxA, .long vxB, .long vxC, .long vxE])), (axr, .inl (cy, 8, .inl fxr)), (axb, .inl (cy, 8, .inl fxb)), (axj, .inl (cy, 6, .inl fxj)), (axi, .inl (cy, 8, .inl fxi)), (axu, .inl (cy, 8, .inl fxu))] s.heap := hP
  obtain ⟨locs, hlocs⟩ : ∃ lc : List Loc, lc = [] := ⟨_, rfl⟩
  rw [← hlocs] at hS ⊢
  obtain ⟨H, hH⟩ : ∃ H : Heap, H = s.heap := ⟨_, rfl⟩
  have hP2 := hP; rw [← hH] at hP2
  have hS2 : va_S A s.heap H locs := by rw [hH]; exact hS
  suffices hgo : W p l e (headSpec wsX5_nearest ({ frames := 5, cells := 0, slots := 0, locals := 120 })).room s m (([.ref ax, .int p0, .int p1] : List Value).toArray) below meth c H locs 0 0 (MQ below (va_Qi (fun (r : Int32) (_ : Unit) => r = res.1) (QW (dC, dI) cy A [(ax, .inr (5, [.int vxn, .ref axr, .ref axb, .ref axj, .int vxk, .ref axi, .ref axu, .long vxA, .long vxB, .long vxC, .long vxE])), (axr, .inl (cy, 8, .inl fxr)), (axb, .inl (cy, 8, .inl fxb)), (axj, .inl (cy, 6, .inl fxj)), (axi, .inl (cy, 8, .inl res.2.1)), (axu, .inl (cy, 8, .inl res.2.2))]) A) (([.ref ax, .int p0, .int p1] : List Value).toArray) s 0 0 A) (F0 m 0 ls []) by rw [hH] at hgo; exact hgo
  replace hP := hP2
  replace hS := hS2
  clear hP2 hS2
  have hin_X5 : ∀ w ∈ wsX50, w ∈ wsX5_nearest := by decide +kernel
  have hf_26 := hts (.fieldLink RX5 26 "FewLooksModel" "it" "[I") (by decide +kernel)
  unfold fX5_nearest at h
  refine lv_iload_n hx hb dX5_nearest_0 rfl (lv_at hl 1 rfl) ?_
  obtain ⟨r1, hr1, h⟩ := bd_some h
  have hFc := va_free (wc := []) hD hS hA [] rfl
  refine va_calli (va_runS (As := [.int p0]) (rest := []) ⟨hx, hb, hml, hown, hts⟩ (c_X5_isSubject l dC dI cy  H.size  p0 r1 hr1) (va_cwS 1 hts gX5_nearest_X5_isSubject rfl rfl rfl (by decide +kernel) ⟨Nat.le_of_ble_eq_true rfl, Nat.le_of_ble_eq_true rfl⟩) ⟨PW_fb, PW_pre (hP.sub (ws' := []) [] rfl) hK (hD.sub [] (by decide) rfl) hN⟩ rfl rfl hl.1 rfl (lv_room (Nat.le_of_ble_eq_true rfl)) dX5_nearest_1 ⟨Nat.zero_le _, Nat.zero_le _⟩) hS (fun q _ h => hFc q h) hFc (fun rz u t H locs ht hvm hw hB hz1 hk1 hS => ?_)
  obtain ⟨hP, hD⟩ := jn (wr := [(ax, .inr (5, [.int vxn, .ref axr, .ref axb, .ref axj, .int vxk, .ref axi, .ref axu, .long vxA, .long vxB, .long vxC, .long vxE])), (axr, .inl (cy, 8, .inl fxr)), (axb, .inl (cy, 8, .inl fxb)), (axj, .inl (cy, 6, .inl fxj)), (axi, .inl (cy, 8, .inl fxi)), (axu, .inl (cy, 8, .inl fxu))]) (w1 := []) (ws' := [(ax, .inr (5, [.int vxn, .ref axr, .ref axb, .ref axj, .int vxk, .ref axi, .ref axu, .long vxA, .long vxB, .long vxC, .long vxE])), (axr, .inl (cy, 8, .inl fxr)), (axb, .inl (cy, 8, .inl fxb)), (axj, .inl (cy, 6, .inl fxj)), (axi, .inl (cy, 8, .inl fxi)), (axu, .inl (cy, 8, .inl fxu))]) hP hD [] [0, 1, 2, 3, 4, 5] rfl rfl (by decide) (by decide) hk1 hFc hB ht [0, 1, 2, 3, 4, 5] rfl (by decide) rfl
  obtain ⟨hw, br1⟩ := hw
  replace hw := hw.symm
  subst hw
  clear hFc hB hk1 hz1 hvm
  refine lv_if_eq (tgt := 27) hx hb dX5_nearest_4 (by decide) (fun c16 => ?_) (fun c16 => ?_)
  · rw [if_pos c16] at h
    refine lv_bipush (v := (-2 : Int32)) hx hb dX5_nearest_27 (by decide) ?_
    have h0 := Option.some.inj h
    subst h0
    exact W.iret hx hb hr (fun t ht hW => ⟨⟨_, (), rfl, rfl, QW_mk hP hK hD ht hW⟩, hS.F ht⟩) hS.2.2 dX5_nearest_29
  · rw [if_neg c16] at h
    refine lv_iload_n hx hb dX5_nearest_7 rfl (lv_at hl 1 rfl) ?_
    refine lv_iconst (v := (4 : Int32)) hx hb dX5_nearest_8 (by decide) ?_
    refine lv_icmp_ge (tgt := 23) hx hb dX5_nearest_9 (by decide) (fun c15 => ?_) (fun c15 => ?_)
    · rw [if_pos c15] at h
      refine lv_iload_n hx hb dX5_nearest_23 rfl (lv_at hl 2 rfl) ?_
      refine lv_if_eq (tgt := 30) hx hb dX5_nearest_24 (by decide) (fun c7 => ?_) (fun c7 => ?_)
      · rw [if_pos c7] at h
        refine lv_iload_n hx hb dX5_nearest_30 rfl (lv_at hl 1 rfl) ?_
        refine lv_iconst (v := (4 : Int32)) hx hb dX5_nearest_31 (by decide) ?_
        refine lv_icmp_ge (tgt := 47) hx hb dX5_nearest_32 (by decide) (fun c6 => ?_) (fun c6 => ?_)
        · rw [if_pos c6] at h
          refine lv_iload_n hx hb dX5_nearest_47 rfl (lv_at hl 1 rfl) ?_
          refine lv_iconst (v := (4 : Int32)) hx hb dX5_nearest_48 (by decide) ?_
          refine lv_icmp_ne (tgt := 59) hx hb dX5_nearest_49 (by decide) (fun c4 => ?_) (fun c4 => ?_)
          · rw [if_neg c4] at h
            refine lv_aload_n hx hb dX5_nearest_59 rfl (lv_at hl 0 rfl) ?_
            refine lv_bipush (v := (63 : Int32)) hx hb dX5_nearest_60 (by decide) ?_
            obtain ⟨r2, hr2, h⟩ := bd_some h
            have hFc := va_free (wc := [(ax, .inr (5, [.int vxn, .ref axr, .ref axb, .ref axj, .int vxk, .ref axi, .ref axu, .long vxA, .long vxB, .long vxC, .long vxE])), (axj, .inl (cy, 6, .inl fxj))]) hD hS hA [0, 3] rfl
            refine va_calli (va_runV (As := [.int (63 : Int32)]) (rest := []) ⟨hx, hb, hml, hown, hts⟩ (c_X5_nearestNet l dC dI cy ax axr axb axj axi axu H.size vxn vxk vxA vxB vxC vxE fxj (63 : Int32) r2 hr2) (cwV 1 hts gX5_nearest_X5_nearestNet rfl rfl rfl (by decide +kernel) ⟨Nat.le_of_ble_eq_true rfl, Nat.le_of_ble_eq_true rfl⟩) ⟨PW_fb, va_recv hK hP (ci := 5) (q0 := 0) rfl rfl, PW_pre (hP.sub (ws' := [(ax, .inr (5, [.int vxn, .ref axr, .ref axb, .ref axj, .int vxk, .ref axi, .ref axu, .long vxA, .long vxB, .long vxC, .long vxE])), (axj, .inl (cy, 6, .inl fxj))]) [0, 3] rfl) hK (hD.sub [0, 3] (by decide) rfl) hN⟩ rfl rfl hl.1 rfl (lv_room (Nat.le_of_ble_eq_true rfl)) dX5_nearest_62 ⟨Nat.zero_le _, Nat.zero_le _⟩) hS (fun q _ h => hFc q h) hFc (fun rz u t H locs ht hvm hw hB hz1 hk1 hS => ?_)
            obtain ⟨hP, hD⟩ := jn (wr := [(axr, .inl (cy, 8, .inl fxr)), (axb, .inl (cy, 8, .inl fxb)), (axi, .inl (cy, 8, .inl fxi)), (axu, .inl (cy, 8, .inl fxu))]) (w1 := [(ax, .inr (5, [.int vxn, .ref axr, .ref axb, .ref axj, .int vxk, .ref axi, .ref axu, .long vxA, .long vxB, .long vxC, .long vxE])), (axj, .inl (cy, 6, .inl fxj))]) (ws' := [(ax, .inr (5, [.int vxn, .ref axr, .ref axb, .ref axj, .int vxk, .ref axi, .ref axu, .long vxA, .long vxB, .long vxC, .long vxE])), (axr, .inl (cy, 8, .inl fxr)), (axb, .inl (cy, 8, .inl fxb)), (axj, .inl (cy, 6, .inl fxj)), (axi, .inl (cy, 8, .inl fxi)), (axu, .inl (cy, 8, .inl fxu))]) hP hD [0, 3] [1, 2, 4, 5] rfl rfl (by decide) (by decide) hk1 hFc hB ht [4, 0, 1, 5, 2, 3] rfl (by decide) rfl
            replace hw := hw.symm
            subst hw
            clear hFc hB hk1 hz1 hvm
            have h0 := Option.some.inj h
            subst h0
            exact W.iret hx hb hr (fun t ht hW => ⟨⟨_, (), rfl, rfl, QW_mk hP hK hD ht hW⟩, hS.F ht⟩) hS.2.2 dX5_nearest_65
          · rw [if_pos c4] at h
            refine lv_aload_n hx hb dX5_nearest_52 rfl (lv_at hl 0 rfl) ?_
            obtain ⟨r3, hr3, h⟩ := bd_some h
            have hFc := va_free (wc := [(ax, .inr (5, [.int vxn, .ref axr, .ref axb, .ref axj, .int vxk, .ref axi, .ref axu, .long vxA, .long vxB, .long vxC, .long vxE])), (axb, .inl (cy, 8, .inl fxb))]) hD hS hA [0, 2] rfl
            refine va_calli (va_runV (As := []) (rest := []) ⟨hx, hb, hml, hown, hts⟩ (c_X5_nearestTable l dC dI cy ax axr axb axj axi axu H.size vxn vxk vxA vxB vxC vxE fxb  r3 hr3) (cwV 0 hts gX5_nearest_X5_nearestTable rfl rfl rfl (by decide +kernel) ⟨Nat.le_of_ble_eq_true rfl, Nat.le_of_ble_eq_true rfl⟩) ⟨PW_fb, va_recv hK hP (ci := 5) (q0 := 0) rfl rfl, PW_pre (hP.sub (ws' := [(ax, .inr (5, [.int vxn, .ref axr, .ref axb, .ref axj, .int vxk, .ref axi, .ref axu, .long vxA, .long vxB, .long vxC, .long vxE])), (axb, .inl (cy, 8, .inl fxb))]) [0, 2] rfl) hK (hD.sub [0, 2] (by decide) rfl) hN⟩ rfl rfl hl.1 rfl (lv_room (Nat.le_of_ble_eq_true rfl)) dX5_nearest_53 ⟨Nat.zero_le _, Nat.zero_le _⟩) hS (fun q _ h => hFc q h) hFc (fun rz u t H locs ht hvm hw hB hz1 hk1 hS => ?_)
            obtain ⟨hP, hD⟩ := jn (wr := [(axr, .inl (cy, 8, .inl fxr)), (axj, .inl (cy, 6, .inl fxj)), (axi, .inl (cy, 8, .inl fxi)), (axu, .inl (cy, 8, .inl fxu))]) (w1 := [(ax, .inr (5, [.int vxn, .ref axr, .ref axb, .ref axj, .int vxk, .ref axi, .ref axu, .long vxA, .long vxB, .long vxC, .long vxE])), (axb, .inl (cy, 8, .inl fxb))]) (ws' := [(ax, .inr (5, [.int vxn, .ref axr, .ref axb, .ref axj, .int vxk, .ref axi, .ref axu, .long vxA, .long vxB, .long vxC, .long vxE])), (axr, .inl (cy, 8, .inl fxr)), (axb, .inl (cy, 8, .inl fxb)), (axj, .inl (cy, 6, .inl fxj)), (axi, .inl (cy, 8, .inl fxi)), (axu, .inl (cy, 8, .inl fxu))]) hP hD [0, 2] [1, 3, 4, 5] rfl rfl (by decide) (by decide) hk1 hFc hB ht [4, 0, 5, 1, 2, 3] rfl (by decide) rfl
            replace hw := hw.symm
            subst hw
            clear hFc hB hk1 hz1 hvm
            refine lv_goto (tgt := 65) hx hb dX5_nearest_56 (by decide) ?_
            have h0 := Option.some.inj h
            subst h0
            exact W.iret hx hb hr (fun t ht hW => ⟨⟨_, (), rfl, rfl, QW_mk hP hK hD ht hW⟩, hS.F ht⟩) hS.2.2 dX5_nearest_65
        · rw [if_neg c6] at h
          refine lv_aload_n hx hb dX5_nearest_35 rfl (lv_at hl 0 rfl) ?_
          refine lv_iload_n hx hb dX5_nearest_36 rfl (lv_at hl 1 rfl) ?_
          obtain ⟨r5, hr5, h⟩ := bd_some h
          have hFc := va_free (wc := [(ax, .inr (5, [.int vxn, .ref axr, .ref axb, .ref axj, .int vxk, .ref axi, .ref axu, .long vxA, .long vxB, .long vxC, .long vxE])), (axr, .inl (cy, 8, .inl fxr)), (axi, .inl (cy, 8, .inl fxi)), (axu, .inl (cy, 8, .inl fxu))]) hD hS hA [0, 1, 4, 5] rfl
          refine va_callv (va_runV (As := [.int p0]) (rest := []) ⟨hx, hb, hml, hown, hts⟩ (c_X5_findNearest l dC dI cy ax axr axb axj axi axu H.size vxn vxk vxA vxB vxC vxE fxr fxi fxu p0 r5 hr5) (cwV 1 hts gX5_nearest_X5_findNearest rfl rfl rfl (by decide +kernel) ⟨Nat.le_of_ble_eq_true rfl, Nat.le_of_ble_eq_true rfl⟩) ⟨PW_fb, va_recv hK hP (ci := 5) (q0 := 0) rfl rfl, PW_pre (hP.sub (ws' := [(ax, .inr (5, [.int vxn, .ref axr, .ref axb, .ref axj, .int vxk, .ref axi, .ref axu, .long vxA, .long vxB, .long vxC, .long vxE])), (axr, .inl (cy, 8, .inl fxr)), (axi, .inl (cy, 8, .inl fxi)), (axu, .inl (cy, 8, .inl fxu))]) [0, 1, 4, 5] rfl) hK (hD.sub [0, 1, 4, 5] (by decide) rfl) hN⟩ rfl rfl hl.1 rfl (lv_room (Nat.le_of_ble_eq_true rfl)) dX5_nearest_37 ⟨Nat.zero_le _, Nat.zero_le _⟩) hS (fun q _ h => hFc q h) hFc (fun u t H locs ht hvm hw hB hz1 hk1 hS => ?_)
          obtain ⟨hP, hD⟩ := jn (wr := [(axb, .inl (cy, 8, .inl fxb)), (axj, .inl (cy, 6, .inl fxj))]) (w1 := [(ax, .inr (5, [.int vxn, .ref axr, .ref axb, .ref axj, .int vxk, .ref axi, .ref axu, .long vxA, .long vxB, .long vxC, .long vxE])), (axr, .inl (cy, 8, .inl fxr)), (axi, .inl (cy, 8, .inl r5.1)), (axu, .inl (cy, 8, .inl r5.2))]) (ws' := [(ax, .inr (5, [.int vxn, .ref axr, .ref axb, .ref axj, .int vxk, .ref axi, .ref axu, .long vxA, .long vxB, .long vxC, .long vxE])), (axr, .inl (cy, 8, .inl fxr)), (axb, .inl (cy, 8, .inl fxb)), (axj, .inl (cy, 6, .inl fxj)), (axi, .inl (cy, 8, .inl r5.1)), (axu, .inl (cy, 8, .inl r5.2))]) hP hD [0, 1, 4, 5] [2, 3] rfl rfl (by decide) (by decide) hk1 hFc hB ht [2, 3, 0, 1, 4, 5] rfl (by decide) rfl
          clear hFc hB hk1 hz1 hvm
          refine lv_aload_n hx hb dX5_nearest_40 rfl (lv_at hl 0 rfl) ?_
          refine va_get (D := (dC, dI)) (ci := 5) (v := .ref axi) (C := RX5) (T := TX5) (N := 11) hx hb hts hin_X5 hown hK hP 0 rfl rfl 5 (by decide) (hf_26) (fun _ h9 => h9) rfl dX5_nearest_41 ?_
          refine lv_iload_n hx hb dX5_nearest_44 rfl (lv_at hl 2 rfl) ?_
          obtain ⟨hi, h⟩ := gin_some h
          refine va_iald hx hb hK hP 4 0 rfl rfl hi dX5_nearest_45 ?_
          have h0 := Option.some.inj h
          subst h0
          exact W.iret hx hb hr (fun t ht hW => ⟨⟨_, (), rfl, rfl, QW_mk hP hK hD ht hW⟩, hS.F ht⟩) hS.2.2 dX5_nearest_46
      · rw [if_neg c7] at h
        refine lv_bipush (v := (-2 : Int32)) hx hb dX5_nearest_27 (by decide) ?_
        have h0 := Option.some.inj h
        subst h0
        exact W.iret hx hb hr (fun t ht hW => ⟨⟨_, (), rfl, rfl, QW_mk hP hK hD ht hW⟩, hS.F ht⟩) hS.2.2 dX5_nearest_29
    · rw [if_neg c15] at h
      refine lv_aload_n hx hb dX5_nearest_12 rfl (lv_at hl 0 rfl) ?_
      refine lv_iload_n hx hb dX5_nearest_13 rfl (lv_at hl 2 rfl) ?_
      obtain ⟨r8, hr8, h⟩ := bd_some h
      have hFc := va_free (wc := [(ax, .inr (5, [.int vxn, .ref axr, .ref axb, .ref axj, .int vxk, .ref axi, .ref axu, .long vxA, .long vxB, .long vxC, .long vxE]))]) hD hS hA [0] rfl
      refine va_calli (va_runV (As := [.int p1]) (rest := []) ⟨hx, hb, hml, hown, hts⟩ (c_X5_isPlace l dC dI cy ax axr axb axj axi axu H.size vxn vxk vxA vxB vxC vxE p1 r8 hr8) (cwV 1 hts gX5_nearest_X5_isPlace rfl rfl rfl (by decide +kernel) ⟨Nat.le_of_ble_eq_true rfl, Nat.le_of_ble_eq_true rfl⟩) ⟨PW_fb, va_recv hK hP (ci := 5) (q0 := 0) rfl rfl, PW_pre (hP.sub (ws' := [(ax, .inr (5, [.int vxn, .ref axr, .ref axb, .ref axj, .int vxk, .ref axi, .ref axu, .long vxA, .long vxB, .long vxC, .long vxE]))]) [0] rfl) hK (hD.sub [0] (by decide) rfl) hN⟩ rfl rfl hl.1 rfl (lv_room (Nat.le_of_ble_eq_true rfl)) dX5_nearest_14 ⟨Nat.zero_le _, Nat.zero_le _⟩) hS (fun q _ h => hFc q h) hFc (fun rz u t H locs ht hvm hw hB hz1 hk1 hS => ?_)
      obtain ⟨hP, hD⟩ := jn (wr := [(axr, .inl (cy, 8, .inl fxr)), (axb, .inl (cy, 8, .inl fxb)), (axj, .inl (cy, 6, .inl fxj)), (axi, .inl (cy, 8, .inl fxi)), (axu, .inl (cy, 8, .inl fxu))]) (w1 := [(ax, .inr (5, [.int vxn, .ref axr, .ref axb, .ref axj, .int vxk, .ref axi, .ref axu, .long vxA, .long vxB, .long vxC, .long vxE]))]) (ws' := [(ax, .inr (5, [.int vxn, .ref axr, .ref axb, .ref axj, .int vxk, .ref axi, .ref axu, .long vxA, .long vxB, .long vxC, .long vxE])), (axr, .inl (cy, 8, .inl fxr)), (axb, .inl (cy, 8, .inl fxb)), (axj, .inl (cy, 6, .inl fxj)), (axi, .inl (cy, 8, .inl fxi)), (axu, .inl (cy, 8, .inl fxu))]) hP hD [0] [1, 2, 3, 4, 5] rfl rfl (by decide) (by decide) hk1 hFc hB ht [5, 0, 1, 2, 3, 4] rfl (by decide) rfl
      obtain ⟨hw, br8⟩ := hw
      replace hw := hw.symm
      subst hw
      clear hFc hB hk1 hz1 hvm
      refine lv_if_ne (tgt := 30) hx hb dX5_nearest_17 (by decide) (fun c14 => ?_) (fun c14 => ?_)
      · rw [if_neg c14] at h
        refine lv_iload_n hx hb dX5_nearest_30 rfl (lv_at hl 1 rfl) ?_
        refine lv_iconst (v := (4 : Int32)) hx hb dX5_nearest_31 (by decide) ?_
        refine lv_icmp_ge (tgt := 47) hx hb dX5_nearest_32 (by decide) (fun c13 => ?_) (fun c13 => ?_)
        · rw [if_pos c13] at h
          refine lv_iload_n hx hb dX5_nearest_47 rfl (lv_at hl 1 rfl) ?_
          refine lv_iconst (v := (4 : Int32)) hx hb dX5_nearest_48 (by decide) ?_
          refine lv_icmp_ne (tgt := 59) hx hb dX5_nearest_49 (by decide) (fun c11 => ?_) (fun c11 => ?_)
          · rw [if_neg c11] at h
            refine lv_aload_n hx hb dX5_nearest_59 rfl (lv_at hl 0 rfl) ?_
            refine lv_bipush (v := (63 : Int32)) hx hb dX5_nearest_60 (by decide) ?_
            obtain ⟨r9, hr9, h⟩ := bd_some h
            have hFc := va_free (wc := [(ax, .inr (5, [.int vxn, .ref axr, .ref axb, .ref axj, .int vxk, .ref axi, .ref axu, .long vxA, .long vxB, .long vxC, .long vxE])), (axj, .inl (cy, 6, .inl fxj))]) hD hS hA [0, 3] rfl
            refine va_calli (va_runV (As := [.int (63 : Int32)]) (rest := []) ⟨hx, hb, hml, hown, hts⟩ (c_X5_nearestNet l dC dI cy ax axr axb axj axi axu H.size vxn vxk vxA vxB vxC vxE fxj (63 : Int32) r9 hr9) (cwV 1 hts gX5_nearest_X5_nearestNet rfl rfl rfl (by decide +kernel) ⟨Nat.le_of_ble_eq_true rfl, Nat.le_of_ble_eq_true rfl⟩) ⟨PW_fb, va_recv hK hP (ci := 5) (q0 := 0) rfl rfl, PW_pre (hP.sub (ws' := [(ax, .inr (5, [.int vxn, .ref axr, .ref axb, .ref axj, .int vxk, .ref axi, .ref axu, .long vxA, .long vxB, .long vxC, .long vxE])), (axj, .inl (cy, 6, .inl fxj))]) [0, 3] rfl) hK (hD.sub [0, 3] (by decide) rfl) hN⟩ rfl rfl hl.1 rfl (lv_room (Nat.le_of_ble_eq_true rfl)) dX5_nearest_62 ⟨Nat.zero_le _, Nat.zero_le _⟩) hS (fun q _ h => hFc q h) hFc (fun rz u t H locs ht hvm hw hB hz1 hk1 hS => ?_)
            obtain ⟨hP, hD⟩ := jn (wr := [(axr, .inl (cy, 8, .inl fxr)), (axb, .inl (cy, 8, .inl fxb)), (axi, .inl (cy, 8, .inl fxi)), (axu, .inl (cy, 8, .inl fxu))]) (w1 := [(ax, .inr (5, [.int vxn, .ref axr, .ref axb, .ref axj, .int vxk, .ref axi, .ref axu, .long vxA, .long vxB, .long vxC, .long vxE])), (axj, .inl (cy, 6, .inl fxj))]) (ws' := [(ax, .inr (5, [.int vxn, .ref axr, .ref axb, .ref axj, .int vxk, .ref axi, .ref axu, .long vxA, .long vxB, .long vxC, .long vxE])), (axr, .inl (cy, 8, .inl fxr)), (axb, .inl (cy, 8, .inl fxb)), (axj, .inl (cy, 6, .inl fxj)), (axi, .inl (cy, 8, .inl fxi)), (axu, .inl (cy, 8, .inl fxu))]) hP hD [0, 3] [1, 2, 4, 5] rfl rfl (by decide) (by decide) hk1 hFc hB ht [4, 0, 1, 5, 2, 3] rfl (by decide) rfl
            replace hw := hw.symm
            subst hw
            clear hFc hB hk1 hz1 hvm
            have h0 := Option.some.inj h
            subst h0
            exact W.iret hx hb hr (fun t ht hW => ⟨⟨_, (), rfl, rfl, QW_mk hP hK hD ht hW⟩, hS.F ht⟩) hS.2.2 dX5_nearest_65
          · rw [if_pos c11] at h
            refine lv_aload_n hx hb dX5_nearest_52 rfl (lv_at hl 0 rfl) ?_
            obtain ⟨r10, hr10, h⟩ := bd_some h
            have hFc := va_free (wc := [(ax, .inr (5, [.int vxn, .ref axr, .ref axb, .ref axj, .int vxk, .ref axi, .ref axu, .long vxA, .long vxB, .long vxC, .long vxE])), (axb, .inl (cy, 8, .inl fxb))]) hD hS hA [0, 2] rfl
            refine va_calli (va_runV (As := []) (rest := []) ⟨hx, hb, hml, hown, hts⟩ (c_X5_nearestTable l dC dI cy ax axr axb axj axi axu H.size vxn vxk vxA vxB vxC vxE fxb  r10 hr10) (cwV 0 hts gX5_nearest_X5_nearestTable rfl rfl rfl (by decide +kernel) ⟨Nat.le_of_ble_eq_true rfl, Nat.le_of_ble_eq_true rfl⟩) ⟨PW_fb, va_recv hK hP (ci := 5) (q0 := 0) rfl rfl, PW_pre (hP.sub (ws' := [(ax, .inr (5, [.int vxn, .ref axr, .ref axb, .ref axj, .int vxk, .ref axi, .ref axu, .long vxA, .long vxB, .long vxC, .long vxE])), (axb, .inl (cy, 8, .inl fxb))]) [0, 2] rfl) hK (hD.sub [0, 2] (by decide) rfl) hN⟩ rfl rfl hl.1 rfl (lv_room (Nat.le_of_ble_eq_true rfl)) dX5_nearest_53 ⟨Nat.zero_le _, Nat.zero_le _⟩) hS (fun q _ h => hFc q h) hFc (fun rz u t H locs ht hvm hw hB hz1 hk1 hS => ?_)
            obtain ⟨hP, hD⟩ := jn (wr := [(axr, .inl (cy, 8, .inl fxr)), (axj, .inl (cy, 6, .inl fxj)), (axi, .inl (cy, 8, .inl fxi)), (axu, .inl (cy, 8, .inl fxu))]) (w1 := [(ax, .inr (5, [.int vxn, .ref axr, .ref axb, .ref axj, .int vxk, .ref axi, .ref axu, .long vxA, .long vxB, .long vxC, .long vxE])), (axb, .inl (cy, 8, .inl fxb))]) (ws' := [(ax, .inr (5, [.int vxn, .ref axr, .ref axb, .ref axj, .int vxk, .ref axi, .ref axu, .long vxA, .long vxB, .long vxC, .long vxE])), (axr, .inl (cy, 8, .inl fxr)), (axb, .inl (cy, 8, .inl fxb)), (axj, .inl (cy, 6, .inl fxj)), (axi, .inl (cy, 8, .inl fxi)), (axu, .inl (cy, 8, .inl fxu))]) hP hD [0, 2] [1, 3, 4, 5] rfl rfl (by decide) (by decide) hk1 hFc hB ht [4, 0, 5, 1, 2, 3] rfl (by decide) rfl
            replace hw := hw.symm
            subst hw
            clear hFc hB hk1 hz1 hvm
            refine lv_goto (tgt := 65) hx hb dX5_nearest_56 (by decide) ?_
            have h0 := Option.some.inj h
            subst h0
            exact W.iret hx hb hr (fun t ht hW => ⟨⟨_, (), rfl, rfl, QW_mk hP hK hD ht hW⟩, hS.F ht⟩) hS.2.2 dX5_nearest_65
        · rw [if_neg c13] at h
          refine lv_aload_n hx hb dX5_nearest_35 rfl (lv_at hl 0 rfl) ?_
          refine lv_iload_n hx hb dX5_nearest_36 rfl (lv_at hl 1 rfl) ?_
          obtain ⟨r12, hr12, h⟩ := bd_some h
          have hFc := va_free (wc := [(ax, .inr (5, [.int vxn, .ref axr, .ref axb, .ref axj, .int vxk, .ref axi, .ref axu, .long vxA, .long vxB, .long vxC, .long vxE])), (axr, .inl (cy, 8, .inl fxr)), (axi, .inl (cy, 8, .inl fxi)), (axu, .inl (cy, 8, .inl fxu))]) hD hS hA [0, 1, 4, 5] rfl
          refine va_callv (va_runV (As := [.int p0]) (rest := []) ⟨hx, hb, hml, hown, hts⟩ (c_X5_findNearest l dC dI cy ax axr axb axj axi axu H.size vxn vxk vxA vxB vxC vxE fxr fxi fxu p0 r12 hr12) (cwV 1 hts gX5_nearest_X5_findNearest rfl rfl rfl (by decide +kernel) ⟨Nat.le_of_ble_eq_true rfl, Nat.le_of_ble_eq_true rfl⟩) ⟨PW_fb, va_recv hK hP (ci := 5) (q0 := 0) rfl rfl, PW_pre (hP.sub (ws' := [(ax, .inr (5, [.int vxn, .ref axr, .ref axb, .ref axj, .int vxk, .ref axi, .ref axu, .long vxA, .long vxB, .long vxC, .long vxE])), (axr, .inl (cy, 8, .inl fxr)), (axi, .inl (cy, 8, .inl fxi)), (axu, .inl (cy, 8, .inl fxu))]) [0, 1, 4, 5] rfl) hK (hD.sub [0, 1, 4, 5] (by decide) rfl) hN⟩ rfl rfl hl.1 rfl (lv_room (Nat.le_of_ble_eq_true rfl)) dX5_nearest_37 ⟨Nat.zero_le _, Nat.zero_le _⟩) hS (fun q _ h => hFc q h) hFc (fun u t H locs ht hvm hw hB hz1 hk1 hS => ?_)
          obtain ⟨hP, hD⟩ := jn (wr := [(axb, .inl (cy, 8, .inl fxb)), (axj, .inl (cy, 6, .inl fxj))]) (w1 := [(ax, .inr (5, [.int vxn, .ref axr, .ref axb, .ref axj, .int vxk, .ref axi, .ref axu, .long vxA, .long vxB, .long vxC, .long vxE])), (axr, .inl (cy, 8, .inl fxr)), (axi, .inl (cy, 8, .inl r12.1)), (axu, .inl (cy, 8, .inl r12.2))]) (ws' := [(ax, .inr (5, [.int vxn, .ref axr, .ref axb, .ref axj, .int vxk, .ref axi, .ref axu, .long vxA, .long vxB, .long vxC, .long vxE])), (axr, .inl (cy, 8, .inl fxr)), (axb, .inl (cy, 8, .inl fxb)), (axj, .inl (cy, 6, .inl fxj)), (axi, .inl (cy, 8, .inl r12.1)), (axu, .inl (cy, 8, .inl r12.2))]) hP hD [0, 1, 4, 5] [2, 3] rfl rfl (by decide) (by decide) hk1 hFc hB ht [2, 3, 0, 1, 4, 5] rfl (by decide) rfl
          clear hFc hB hk1 hz1 hvm
          refine lv_aload_n hx hb dX5_nearest_40 rfl (lv_at hl 0 rfl) ?_
          refine va_get (D := (dC, dI)) (ci := 5) (v := .ref axi) (C := RX5) (T := TX5) (N := 11) hx hb hts hin_X5 hown hK hP 0 rfl rfl 5 (by decide) (hf_26) (fun _ h9 => h9) rfl dX5_nearest_41 ?_
          refine lv_iload_n hx hb dX5_nearest_44 rfl (lv_at hl 2 rfl) ?_
          obtain ⟨hi, h⟩ := gin_some h
          refine va_iald hx hb hK hP 4 0 rfl rfl hi dX5_nearest_45 ?_
          have h0 := Option.some.inj h
          subst h0
          exact W.iret hx hb hr (fun t ht hW => ⟨⟨_, (), rfl, rfl, QW_mk hP hK hD ht hW⟩, hS.F ht⟩) hS.2.2 dX5_nearest_46
      · rw [if_pos c14] at h
        refine lv_goto (tgt := 27) hx hb dX5_nearest_20 (by decide) ?_
        refine lv_bipush (v := (-2 : Int32)) hx hb dX5_nearest_27 (by decide) ?_
        have h0 := Option.some.inj h
        subst h0
        exact W.iret hx hb hr (fun t ht hW => ⟨⟨_, (), rfl, rfl, QW_mk hP hK hD ht hW⟩, hS.F ht⟩) hS.2.2 dX5_nearest_29

noncomputable def fX5_mend_L84 (n : Nat) (l3 : Int32) (l4 : Int32) (fxj : Nat → Int32) : Option (Int32 × (Nat → Int32)) := match n with
  | 0 => none
  | n + 1 => if (6 : Int32) ≤ l4 then (some (l4, fxj)) else (bd (if ((l3 >>> (l4 &&& 31)) &&& (1 : Int32)) = (1 : Int32) then (some l3) else (some ((63 : Int32) &&& (l3 ^^^ (-1 : Int32))))) fun q4 => gin l4 6 (gin l4 6 (fX5_mend_L84 n l3 (l4 + (1 : Int32)) (upd fxj l4.toNatClampNeg ((fxj l4.toNatClampNeg) &&& (q4 ^^^ (-1 : Int32)))))))
theorem fX5_mend_L84_0 (l3 : Int32) (l4 : Int32) (fxj : Nat → Int32) : fX5_mend_L84 0 l3 l4 fxj = none := rfl
theorem fX5_mend_L84_s (n : Nat) (l3 : Int32) (l4 : Int32) (fxj : Nat → Int32) : fX5_mend_L84 (n + 1) l3 l4 fxj = if (6 : Int32) ≤ l4 then (some (l4, fxj)) else (bd (if ((l3 >>> (l4 &&& 31)) &&& (1 : Int32)) = (1 : Int32) then (some l3) else (some ((63 : Int32) &&& (l3 ^^^ (-1 : Int32))))) fun q4 => gin l4 6 (gin l4 6 (fX5_mend_L84 n l3 (l4 + (1 : Int32)) (upd fxj l4.toNatClampNeg ((fxj l4.toNatClampNeg) &&& (q4 ^^^ (-1 : Int32))))))) := rfl
noncomputable def fX5_mend_L28 (n : Nat) (l3 : Int32) (vxn : Int32) (fxr : Nat → Int32) (fxi : Nat → Int32) : Option (Int32 × (Nat → Int32)) := match n with
  | 0 => none
  | n + 1 => if vxn ≤ l3 then (some (l3, fxr)) else (gin l3 8 (gin l3 8 (fX5_mend_L28 n (l3 + (1 : Int32)) vxn (upd fxr l3.toNatClampNeg (fxi l3.toNatClampNeg)) fxi)))
theorem fX5_mend_L28_0 (l3 : Int32) (vxn : Int32) (fxr : Nat → Int32) (fxi : Nat → Int32) : fX5_mend_L28 0 l3 vxn fxr fxi = none := rfl
theorem fX5_mend_L28_s (n : Nat) (l3 : Int32) (vxn : Int32) (fxr : Nat → Int32) (fxi : Nat → Int32) : fX5_mend_L28 (n + 1) l3 vxn fxr fxi = if vxn ≤ l3 then (some (l3, fxr)) else (gin l3 8 (gin l3 8 (fX5_mend_L28 n (l3 + (1 : Int32)) vxn (upd fxr l3.toNatClampNeg (fxi l3.toNatClampNeg)) fxi))) := rfl
noncomputable def fX5_mend (vxn : Int32) (fxr : Nat → Int32) (fxb : Nat → Int32) (fxj : Nat → Int32) (fxi : Nat → Int32) (fxu : Nat → Int32) (p0 : Int32) : Option (Int32 × (Nat → Int32) × (Nat → Int32) × (Nat → Int32) × (Nat → Int32) × (Nat → Int32)) := bd (fX5_isSubject p0) fun r1 => if r1 = 0 then (some ((-2 : Int32), fxr, fxb, fxj, fxi, fxu)) else (bd (fX5_distanceOf vxn fxr fxb fxj fxi fxu p0) fun r2 => if (4 : Int32) ≤ p0 then (if p0 = (4 : Int32) then (bd (fX5_nearestTable fxb) fun r9 => bd (fX5_linear fxb r9) fun r10 => some (r2.1, fxr, r10.2, fxj, r2.2.1, r2.2.2)) else (bd (fX5_nearestNet fxj (63 : Int32)) fun r3 => bd (fX5_mend_L84 FU r3 (0 : Int32) fxj) fun q8 => some (r2.1, fxr, fxb, q8.2, r2.2.1, r2.2.2))) else (bd (fX5_findNearest vxn fxr r2.2.1 r2.2.2 p0) fun r12 => bd (fX5_mend_L28 FU (0 : Int32) vxn fxr r12.1) fun q15 => some (r2.1, q15.2, fxb, fxj, r12.1, r12.2)))
set_option maxHeartbeats 4000000 in
set_option maxRecDepth 100000 in
theorem c_X5_mend (l : Launch) (dC : Nat → ClassId) (dI : Nat → Nat → Nat) (cy : ClassId) (ax axr axb axj axi axu : Nat) (sz : Nat) (vxn : Int32) (vxk : Int32) (vxA : Int64) (vxB : Int64) (vxC : Int64) (vxE : Int64) (fxr : Nat → Int32) (fxb : Nat → Int32) (fxj : Nat → Int32) (fxi : Nat → Int32) (fxu : Nat → Int32) (p0 : Int32) (res : Int32 × (Nat → Int32) × (Nat → Int32) × (Nat → Int32) × (Nat → Int32) × (Nat → Int32)) (h : fX5_mend vxn fxr fxb fxj fxi fxu p0 = some res) : Met l yX5_mend wsX5_mend ({ frames := 5, cells := 0, slots := 0, locals := 120 }) (va_Pc [.ref ax, .int p0] (PW (dC, dI) cy sz [(ax, .inr (5, [.int vxn, .ref axr, .ref axb, .ref axj, .int vxk, .ref axi, .ref axu, .long vxA, .long vxB, .long vxC, .long vxE])), (axr, .inl (cy, 8, .inl fxr)), (axb, .inl (cy, 8, .inl fxb)), (axj, .inl (cy, 6, .inl fxj)), (axi, .inl (cy, 8, .inl fxi)), (axu, .inl (cy, 8, .inl fxu))])) (va_Qi (fun (r : Int32) (_ : Unit) => r = res.1) (QW (dC, dI) cy (va_A [(ax, .inr (5, [.int vxn, .ref axr, .ref axb, .ref axj, .int vxk, .ref axi, .ref axu, .long vxA, .long vxB, .long vxC, .long vxE])), (axr, .inl (cy, 8, .inl fxr)), (axb, .inl (cy, 8, .inl fxb)), (axj, .inl (cy, 6, .inl fxj)), (axi, .inl (cy, 8, .inl fxi)), (axu, .inl (cy, 8, .inl fxu))] sz) [(ax, .inr (5, [.int vxn, .ref axr, .ref axb, .ref axj, .int vxk, .ref axi, .ref axu, .long vxA, .long vxB, .long vxC, .long vxE])), (axr, .inl (cy, 8, .inl res.2.1)), (axb, .inl (cy, 8, .inl res.2.2.1)), (axj, .inl (cy, 6, .inl res.2.2.2.1)), (axi, .inl (cy, 8, .inl res.2.2.2.2.1)), (axu, .inl (cy, 8, .inl res.2.2.2.2.2))]) (va_A [(ax, .inr (5, [.int vxn, .ref axr, .ref axb, .ref axj, .int vxk, .ref axi, .ref axu, .long vxA, .long vxB, .long vxC, .long vxE])), (axr, .inl (cy, 8, .inl fxr)), (axb, .inl (cy, 8, .inl fxb)), (axj, .inl (cy, 6, .inl fxj)), (axi, .inl (cy, 8, .inl fxi)), (axu, .inl (cy, 8, .inl fxu))] sz)) 0 0 (va_A [(ax, .inr (5, [.int vxn, .ref axr, .ref axb, .ref axj, .int vxk, .ref axi, .ref axu, .long vxA, .long vxB, .long vxC, .long vxE])), (axr, .inl (cy, 8, .inl fxr)), (axb, .inl (cy, 8, .inl fxb)), (axj, .inl (cy, 6, .inl fxj)), (axi, .inl (cy, 8, .inl fxi)), (axu, .inl (cy, 8, .inl fxu))] sz) := by
  refine Met.ofW (cc := cX5_mend) (maxL := 6) (ret := (some .int)) (by decide) rfl ?_
  intro p e s m args below meth c s₁ B hml hv
  obtain ⟨rfl, hsz, hP, hK, hD0, hN⟩ := hv
  have hx := B.exec
  have hb := B.bytes
  have hr := B.returns
  have hts := atoms_spec (ws := wsX5_mend) B.pre
  have hown : s.vm.findClass RX5 = some m.cls := findClass_of_methodNamed B.named
  have hlocks := B.notSynchronized
  subst hsz
  have hD := hD0.self (sz := s.heap.size)
  clear hD0
  generalize hAe : va_A [(ax, .inr (5, [.int vxn, .ref axr, .ref axb, .ref axj, .int vxk, .ref axi, .ref axu, .long vxA, .long vxB, .long vxC, .long vxE])), (axr, .inl (cy, 8, .inl fxr)), (axb, .inl (cy, 8, .inl fxb)), (axj, .inl (cy, 6, .inl fxj)), (axi, .inl (cy, 8, .inl fxi)), (axu, .inl (cy, 8, .inl fxu))] s.heap.size = A at hD ⊢
  have hA : ∀ q : Nat, s.heap.size ≤ q → A q := fun q h => by rw [← hAe]; exact Or.inr h
  have hS : va_S A s.heap s.heap [] := va_S.rf
  have hl := lv_entry ([.ref ax, .int p0]) (n := 6) (Nat.le_of_ble_eq_true rfl)
  rw [lg_entry_eq]
  generalize (lg_sl ([.ref ax, .int p0]) ++ List.replicate (6 - (lg_sl ([.ref ax, .int p0])).length) Slot.unset).toArray = ls at hl ⊢
  replace hl : lv_has ls 6 [(0, .ref ax), (1, .int p0)] := hl
  replace hP : va_P (dC, dI) vwCl [(ax, .inr (5, [.int vxn, .ref axr, .ref axb, .ref axj, .int vxk, .ref axi, .ref axu, .long vxA, .long vxB, .long vxC, .long vxE])), (axr, .inl (cy, 8, .inl fxr)), (axb, .inl (cy, 8, .inl fxb)), (axj, .inl (cy, 6, .inl fxj)), (axi, .inl (cy, 8, .inl fxi)), (axu, .inl (cy, 8, .inl fxu))] s.heap := hP
  obtain ⟨locs, hlocs⟩ : ∃ lc : List Loc, lc = [] := ⟨_, rfl⟩
  rw [← hlocs] at hS ⊢
  obtain ⟨H, hH⟩ : ∃ H : Heap, H = s.heap := ⟨_, rfl⟩
  have hP2 := hP; rw [← hH] at hP2
  have hS2 : va_S A s.heap H locs := by rw [hH]; exact hS
  suffices hgo : W p l e (headSpec wsX5_mend ({ frames := 5, cells := 0, slots := 0, locals := 120 })).room s m (([.ref ax, .int p0] : List Value).toArray) below meth c H locs 0 0 (MQ below (va_Qi (fun (r : Int32) (_ : Unit) => r = res.1) (QW (dC, dI) cy A [(ax, .inr (5, [.int vxn, .ref axr, .ref axb, .ref axj, .int vxk, .ref axi, .ref axu, .long vxA, .long vxB, .long vxC, .long vxE])), (axr, .inl (cy, 8, .inl res.2.1)), (axb, .inl (cy, 8, .inl res.2.2.1)), (axj, .inl (cy, 6, .inl res.2.2.2.1)), (axi, .inl (cy, 8, .inl res.2.2.2.2.1)), (axu, .inl (cy, 8, .inl res.2.2.2.2.2))]) A) (([.ref ax, .int p0] : List Value).toArray) s 0 0 A) (F0 m 0 ls []) by rw [hH] at hgo; exact hgo
  replace hP := hP2
  replace hS := hS2
  clear hP2 hS2
  have hin_X5 : ∀ w ∈ wsX50, w ∈ wsX5_mend := by decide +kernel
  have hf_7 := hts (.fieldLink RX5 7 "FewLooksModel" "n" "I") (by decide +kernel)
  have hf_13 := hts (.fieldLink RX5 13 "FewLooksModel" "row" "[I") (by decide +kernel)
  have hf_20 := hts (.fieldLink RX5 20 "FewLooksModel" "joined" "[I") (by decide +kernel)
  have hf_26 := hts (.fieldLink RX5 26 "FewLooksModel" "it" "[I") (by decide +kernel)
  unfold fX5_mend at h
  refine lv_iload_n hx hb dX5_mend_0 rfl (lv_at hl 1 rfl) ?_
  obtain ⟨r1, hr1, h⟩ := bd_some h
  have hFc := va_free (wc := []) hD hS hA [] rfl
  refine va_calli (va_runS (As := [.int p0]) (rest := []) ⟨hx, hb, hml, hown, hts⟩ (c_X5_isSubject l dC dI cy  H.size  p0 r1 hr1) (va_cwS 1 hts gX5_mend_X5_isSubject rfl rfl rfl (by decide +kernel) ⟨Nat.le_of_ble_eq_true rfl, Nat.le_of_ble_eq_true rfl⟩) ⟨PW_fb, PW_pre (hP.sub (ws' := []) [] rfl) hK (hD.sub [] (by decide) rfl) hN⟩ rfl rfl hl.1 rfl (lv_room (Nat.le_of_ble_eq_true rfl)) dX5_mend_1 ⟨Nat.zero_le _, Nat.zero_le _⟩) hS (fun q _ h => hFc q h) hFc (fun rz u t H locs ht hvm hw hB hz1 hk1 hS => ?_)
  obtain ⟨hP, hD⟩ := jn (wr := [(ax, .inr (5, [.int vxn, .ref axr, .ref axb, .ref axj, .int vxk, .ref axi, .ref axu, .long vxA, .long vxB, .long vxC, .long vxE])), (axr, .inl (cy, 8, .inl fxr)), (axb, .inl (cy, 8, .inl fxb)), (axj, .inl (cy, 6, .inl fxj)), (axi, .inl (cy, 8, .inl fxi)), (axu, .inl (cy, 8, .inl fxu))]) (w1 := []) (ws' := [(ax, .inr (5, [.int vxn, .ref axr, .ref axb, .ref axj, .int vxk, .ref axi, .ref axu, .long vxA, .long vxB, .long vxC, .long vxE])), (axr, .inl (cy, 8, .inl fxr)), (axb, .inl (cy, 8, .inl fxb)), (axj, .inl (cy, 6, .inl fxj)), (axi, .inl (cy, 8, .inl fxi)), (axu, .inl (cy, 8, .inl fxu))]) hP hD [] [0, 1, 2, 3, 4, 5] rfl rfl (by decide) (by decide) hk1 hFc hB ht [0, 1, 2, 3, 4, 5] rfl (by decide) rfl
  obtain ⟨hw, br1⟩ := hw
  replace hw := hw.symm
  subst hw
  clear hFc hB hk1 hz1 hvm
  refine lv_if_ne (tgt := 10) hx hb dX5_mend_4 (by decide) (fun c17 => ?_) (fun c17 => ?_)
  · rw [if_neg c17] at h
    refine lv_aload_n hx hb dX5_mend_10 rfl (lv_at hl 0 rfl) ?_
    refine lv_iload_n hx hb dX5_mend_11 rfl (lv_at hl 1 rfl) ?_
    obtain ⟨r2, hr2, h⟩ := bd_some h
    have hFc := va_free (wc := [(ax, .inr (5, [.int vxn, .ref axr, .ref axb, .ref axj, .int vxk, .ref axi, .ref axu, .long vxA, .long vxB, .long vxC, .long vxE])), (axr, .inl (cy, 8, .inl fxr)), (axb, .inl (cy, 8, .inl fxb)), (axj, .inl (cy, 6, .inl fxj)), (axi, .inl (cy, 8, .inl fxi)), (axu, .inl (cy, 8, .inl fxu))]) hD hS hA [0, 1, 2, 3, 4, 5] rfl
    refine va_calli (va_runV (As := [.int p0]) (rest := []) ⟨hx, hb, hml, hown, hts⟩ (c_X5_distanceOf l dC dI cy ax axr axb axj axi axu H.size vxn vxk vxA vxB vxC vxE fxr fxb fxj fxi fxu p0 r2 hr2) (cwV 1 hts gX5_mend_X5_distanceOf rfl rfl rfl (by decide +kernel) ⟨Nat.le_of_ble_eq_true rfl, Nat.le_of_ble_eq_true rfl⟩) ⟨PW_fb, va_recv hK hP (ci := 5) (q0 := 0) rfl rfl, PW_pre (hP.sub (ws' := [(ax, .inr (5, [.int vxn, .ref axr, .ref axb, .ref axj, .int vxk, .ref axi, .ref axu, .long vxA, .long vxB, .long vxC, .long vxE])), (axr, .inl (cy, 8, .inl fxr)), (axb, .inl (cy, 8, .inl fxb)), (axj, .inl (cy, 6, .inl fxj)), (axi, .inl (cy, 8, .inl fxi)), (axu, .inl (cy, 8, .inl fxu))]) [0, 1, 2, 3, 4, 5] rfl) hK (hD.sub [0, 1, 2, 3, 4, 5] (by decide) rfl) hN⟩ rfl rfl hl.1 rfl (lv_room (Nat.le_of_ble_eq_true rfl)) dX5_mend_12 ⟨Nat.zero_le _, Nat.zero_le _⟩) hS (fun q _ h => hFc q h) hFc (fun rz u t H locs ht hvm hw hB hz1 hk1 hS => ?_)
    obtain ⟨hP, hD⟩ := jn (wr := []) (w1 := [(ax, .inr (5, [.int vxn, .ref axr, .ref axb, .ref axj, .int vxk, .ref axi, .ref axu, .long vxA, .long vxB, .long vxC, .long vxE])), (axr, .inl (cy, 8, .inl fxr)), (axb, .inl (cy, 8, .inl fxb)), (axj, .inl (cy, 6, .inl fxj)), (axi, .inl (cy, 8, .inl r2.2.1)), (axu, .inl (cy, 8, .inl r2.2.2))]) (ws' := [(ax, .inr (5, [.int vxn, .ref axr, .ref axb, .ref axj, .int vxk, .ref axi, .ref axu, .long vxA, .long vxB, .long vxC, .long vxE])), (axr, .inl (cy, 8, .inl fxr)), (axb, .inl (cy, 8, .inl fxb)), (axj, .inl (cy, 6, .inl fxj)), (axi, .inl (cy, 8, .inl r2.2.1)), (axu, .inl (cy, 8, .inl r2.2.2))]) hP hD [0, 1, 2, 3, 4, 5] [] rfl rfl (by decide) (by decide) hk1 hFc hB ht [0, 1, 2, 3, 4, 5] rfl (by decide) rfl
    replace hw := hw.symm
    subst hw
    clear hFc hB hk1 hz1 hvm
    refine lv_istore_n (lv' := [(2, .int r2.1), (0, .ref ax), (1, .int p0)]) hx hb dX5_mend_15 rfl hl (by decide) rfl (fun ls hl => ?_)
    refine lv_iload_n hx hb dX5_mend_16 rfl (lv_at hl 2 rfl) ?_
    refine lv_iconst (v := (4 : Int32)) hx hb dX5_mend_17 (by decide) ?_
    refine lv_icmp_ge (tgt := 57) hx hb dX5_mend_18 (by decide) (fun c16 => ?_) (fun c16 => ?_)
    · rw [if_pos c16] at h
      refine lv_iload_n hx hb dX5_mend_57 rfl (lv_at hl 2 rfl) ?_
      refine lv_iconst (v := (4 : Int32)) hx hb dX5_mend_58 (by decide) ?_
      refine lv_icmp_ne (tgt := 74) hx hb dX5_mend_59 (by decide) (fun c11 => ?_) (fun c11 => ?_)
      · rw [if_neg c11] at h
        refine lv_aload_n hx hb dX5_mend_74 rfl (lv_at hl 1 rfl) ?_
        refine lv_bipush (v := (63 : Int32)) hx hb dX5_mend_75 (by decide) ?_
        obtain ⟨r3, hr3, h⟩ := bd_some h
        have hFc := va_free (wc := [(ax, .inr (5, [.int vxn, .ref axr, .ref axb, .ref axj, .int vxk, .ref axi, .ref axu, .long vxA, .long vxB, .long vxC, .long vxE])), (axj, .inl (cy, 6, .inl fxj))]) hD hS hA [0, 3] rfl
        refine va_calli (va_runV (As := [.int (63 : Int32)]) (rest := []) ⟨hx, hb, hml, hown, hts⟩ (c_X5_nearestNet l dC dI cy ax axr axb axj axi axu H.size vxn vxk vxA vxB vxC vxE fxj (63 : Int32) r3 hr3) (cwV 1 hts gX5_mend_X5_nearestNet rfl rfl rfl (by decide +kernel) ⟨Nat.le_of_ble_eq_true rfl, Nat.le_of_ble_eq_true rfl⟩) ⟨PW_fb, va_recv hK hP (ci := 5) (q0 := 0) rfl rfl, PW_pre (hP.sub (ws' := [(ax, .inr (5, [.int vxn, .ref axr, .ref axb, .ref axj, .int vxk, .ref axi, .ref axu, .long vxA, .long vxB, .long vxC, .long vxE])), (axj, .inl (cy, 6, .inl fxj))]) [0, 3] rfl) hK (hD.sub [0, 3] (by decide) rfl) hN⟩ rfl rfl hl.1 rfl (lv_room (Nat.le_of_ble_eq_true rfl)) dX5_mend_77 ⟨Nat.zero_le _, Nat.zero_le _⟩) hS (fun q _ h => hFc q h) hFc (fun rz u t H locs ht hvm hw hB hz1 hk1 hS => ?_)
        obtain ⟨hP, hD⟩ := jn (wr := [(axr, .inl (cy, 8, .inl fxr)), (axb, .inl (cy, 8, .inl fxb)), (axi, .inl (cy, 8, .inl r2.2.1)), (axu, .inl (cy, 8, .inl r2.2.2))]) (w1 := [(ax, .inr (5, [.int vxn, .ref axr, .ref axb, .ref axj, .int vxk, .ref axi, .ref axu, .long vxA, .long vxB, .long vxC, .long vxE])), (axj, .inl (cy, 6, .inl fxj))]) (ws' := [(ax, .inr (5, [.int vxn, .ref axr, .ref axb, .ref axj, .int vxk, .ref axi, .ref axu, .long vxA, .long vxB, .long vxC, .long vxE])), (axr, .inl (cy, 8, .inl fxr)), (axb, .inl (cy, 8, .inl fxb)), (axj, .inl (cy, 6, .inl fxj)), (axi, .inl (cy, 8, .inl r2.2.1)), (axu, .inl (cy, 8, .inl r2.2.2))]) hP hD [0, 3] [1, 2, 4, 5] rfl rfl (by decide) (by decide) hk1 hFc hB ht [4, 0, 1, 5, 2, 3] rfl (by decide) rfl
        replace hw := hw.symm
        subst hw
        clear hFc hB hk1 hz1 hvm
        refine lv_istore_n (lv' := [(3, .int r3), (2, .int r2.1), (0, .ref ax), (1, .int p0)]) hx hb dX5_mend_80 rfl hl (by decide) rfl (fun ls hl => ?_)
        refine lv_iconst (v := (0 : Int32)) hx hb dX5_mend_81 (by decide) ?_
        refine lv_istore (lv' := [(4, .int (0 : Int32)), (3, .int r3), (2, .int r2.1), (0, .ref ax), (1, .int p0)]) hx hb dX5_mend_82 hl (by decide) rfl (fun ls hl => ?_)
        have L84_6 : ∀ (n : Nat) (l1 : Int32) (l2 : Int32) (l3 : Int32) (l4 : Int32) (fxr : Nat → Int32) (fxb : Nat → Int32) (fxj : Nat → Int32) (fxi : Nat → Int32) (fxu : Nat → Int32) (rs : (Int32 × (Nat → Int32))) (H : Heap) (locs : List Loc) (ls : Array Slot), fX5_mend_L84 n l3 l4 fxj = some rs → lv_has ls 6 [(0, .ref ax), (1, .int l1), (2, .int l2), (3, .int l3), (4, .int l4)] → va_P (dC, dI) vwCl [(ax, .inr (5, [.int vxn, .ref axr, .ref axb, .ref axj, .int vxk, .ref axi, .ref axu, .long vxA, .long vxB, .long vxC, .long vxE])), (axr, .inl (cy, 8, .inl fxr)), (axb, .inl (cy, 8, .inl fxb)), (axj, .inl (cy, 6, .inl fxj)), (axi, .inl (cy, 8, .inl fxi)), (axu, .inl (cy, 8, .inl fxu))] H → va_D A [(ax, .inr (5, [.int vxn, .ref axr, .ref axb, .ref axj, .int vxk, .ref axi, .ref axu, .long vxA, .long vxB, .long vxC, .long vxE])), (axr, .inl (cy, 8, .inl fxr)), (axb, .inl (cy, 8, .inl fxb)), (axj, .inl (cy, 6, .inl fxj)), (axi, .inl (cy, 8, .inl fxi)), (axu, .inl (cy, 8, .inl fxu))] → va_S A s.heap H locs → (∀ (H : Heap) (locs : List Loc) (ls : Array Slot), lv_has ls 6 [(0, .ref ax), (1, .int l1), (2, .int l2), (3, .int l3), (4, .int rs.1)] → va_P (dC, dI) vwCl [(ax, .inr (5, [.int vxn, .ref axr, .ref axb, .ref axj, .int vxk, .ref axi, .ref axu, .long vxA, .long vxB, .long vxC, .long vxE])), (axr, .inl (cy, 8, .inl fxr)), (axb, .inl (cy, 8, .inl fxb)), (axj, .inl (cy, 6, .inl rs.2)), (axi, .inl (cy, 8, .inl fxi)), (axu, .inl (cy, 8, .inl fxu))] H → va_D A [(ax, .inr (5, [.int vxn, .ref axr, .ref axb, .ref axj, .int vxk, .ref axi, .ref axu, .long vxA, .long vxB, .long vxC, .long vxE])), (axr, .inl (cy, 8, .inl fxr)), (axb, .inl (cy, 8, .inl fxb)), (axj, .inl (cy, 6, .inl rs.2)), (axi, .inl (cy, 8, .inl fxi)), (axu, .inl (cy, 8, .inl fxu))] → va_S A s.heap H locs → W p l e (headSpec wsX5_mend ({ frames := 5, cells := 0, slots := 0, locals := 120 })).room s m (([.ref ax, .int p0] : List Value).toArray) below meth c H locs 0 0 (MQ below (va_Qi (fun (r : Int32) (_ : Unit) => r = res.1) (QW (dC, dI) cy A [(ax, .inr (5, [.int vxn, .ref axr, .ref axb, .ref axj, .int vxk, .ref axi, .ref axu, .long vxA, .long vxB, .long vxC, .long vxE])), (axr, .inl (cy, 8, .inl res.2.1)), (axb, .inl (cy, 8, .inl res.2.2.1)), (axj, .inl (cy, 6, .inl res.2.2.2.1)), (axi, .inl (cy, 8, .inl res.2.2.2.2.1)), (axu, .inl (cy, 8, .inl res.2.2.2.2.2))]) A) (([.ref ax, .int p0] : List Value).toArray) s 0 0 A) (F0 m 133 ls [])) → W p l e (headSpec wsX5_mend ({ frames := 5, cells := 0, slots := 0, locals := 120 })).room s m (([.ref ax, .int p0] : List Value).toArray) below meth c H locs 0 0 (MQ below (va_Qi (fun (r : Int32) (_ : Unit) => r = res.1) (QW (dC, dI) cy A [(ax, .inr (5, [.int vxn, .ref axr, .ref axb, .ref axj, .int vxk, .ref axi, .ref axu, .long vxA, .long vxB, .long vxC, .long vxE])), (axr, .inl (cy, 8, .inl res.2.1)), (axb, .inl (cy, 8, .inl res.2.2.1)), (axj, .inl (cy, 6, .inl res.2.2.2.1)), (axi, .inl (cy, 8, .inl res.2.2.2.2.1)), (axu, .inl (cy, 8, .inl res.2.2.2.2.2))]) A) (([.ref ax, .int p0] : List Value).toArray) s 0 0 A) (F0 m 84 ls []) := by
          intro n
          induction n with
          | zero =>
            intro l1 l2 l3 l4 fxr fxb fxj fxi fxu rs H locs ls h
            rw [fX5_mend_L84_0] at h
            cases h
          | succ n ih =>
            intro l1 l2 l3 l4 fxr fxb fxj fxi fxu rs H locs ls h hl hP hD hS K
            rw [fX5_mend_L84_s] at h
            refine lv_iload hx hb dX5_mend_84 (lv_at hl 4 rfl) ?_
            refine lv_bipush (v := (6 : Int32)) hx hb dX5_mend_86 (by decide) ?_
            refine lv_icmp_ge (tgt := 133) hx hb dX5_mend_88 (by decide) (fun c6 => ?_) (fun c6 => ?_)
            · rw [if_pos c6] at h
              have h0 := Option.some.inj h
              subst h0
              exact K H locs ls (lv_sub hl [0, 1, 2, 3, 4] rfl) hP hD hS
            · rw [if_neg c6] at h
              refine lv_iload_n hx hb dX5_mend_91 rfl (lv_at hl 3 rfl) ?_
              refine lv_iload hx hb dX5_mend_92 (lv_at hl 4 rfl) ?_
              refine lv_ishr hx hb dX5_mend_94 ?_
              refine lv_iconst (v := (1 : Int32)) hx hb dX5_mend_95 (by decide) ?_
              refine lv_iand hx hb dX5_mend_96 ?_
              refine lv_iconst (v := (1 : Int32)) hx hb dX5_mend_97 (by decide) ?_
              obtain ⟨q4, hq4, h⟩ := bd_some h
              have Jq4 : ∀ (H : Heap) (locs : List Loc) (ls : Array Slot), lv_has ls 6 [(0, .ref ax), (1, .int l1), (2, .int l2), (3, .int l3), (4, .int l4)] → va_P (dC, dI) vwCl [(ax, .inr (5, [.int vxn, .ref axr, .ref axb, .ref axj, .int vxk, .ref axi, .ref axu, .long vxA, .long vxB, .long vxC, .long vxE])), (axr, .inl (cy, 8, .inl fxr)), (axb, .inl (cy, 8, .inl fxb)), (axj, .inl (cy, 6, .inl fxj)), (axi, .inl (cy, 8, .inl fxi)), (axu, .inl (cy, 8, .inl fxu))] H → va_D A [(ax, .inr (5, [.int vxn, .ref axr, .ref axb, .ref axj, .int vxk, .ref axi, .ref axu, .long vxA, .long vxB, .long vxC, .long vxE])), (axr, .inl (cy, 8, .inl fxr)), (axb, .inl (cy, 8, .inl fxb)), (axj, .inl (cy, 6, .inl fxj)), (axi, .inl (cy, 8, .inl fxi)), (axu, .inl (cy, 8, .inl fxu))] → va_S A s.heap H locs → W p l e (headSpec wsX5_mend ({ frames := 5, cells := 0, slots := 0, locals := 120 })).room s m (([.ref ax, .int p0] : List Value).toArray) below meth c H locs 0 0 (MQ below (va_Qi (fun (r : Int32) (_ : Unit) => r = res.1) (QW (dC, dI) cy A [(ax, .inr (5, [.int vxn, .ref axr, .ref axb, .ref axj, .int vxk, .ref axi, .ref axu, .long vxA, .long vxB, .long vxC, .long vxE])), (axr, .inl (cy, 8, .inl res.2.1)), (axb, .inl (cy, 8, .inl res.2.2.1)), (axj, .inl (cy, 6, .inl res.2.2.2.1)), (axi, .inl (cy, 8, .inl res.2.2.2.2.1)), (axu, .inl (cy, 8, .inl res.2.2.2.2.2))]) A) (([.ref ax, .int p0] : List Value).toArray) s 0 0 A) (F0 m 111 ls [.int q4]) := by
                intro H locs ls hl hP hD hS
                refine lv_istore (lv' := [(5, .int q4), (0, .ref ax), (1, .int l1), (2, .int l2), (3, .int l3), (4, .int l4)]) hx hb dX5_mend_111 hl (by decide) rfl (fun ls hl => ?_)
                refine lv_aload_n hx hb dX5_mend_113 rfl (lv_at hl 1 rfl) ?_
                refine va_get (D := (dC, dI)) (ci := 5) (v := .ref axj) (C := RX5) (T := TX5) (N := 11) hx hb hts hin_X5 hown hK hP 0 rfl rfl 3 (by decide) (hf_20) (fun _ h9 => h9) rfl dX5_mend_114 ?_
                refine lv_iload hx hb dX5_mend_117 (lv_at hl 5 rfl) ?_
                refine lv_dup2_11 hx hb dX5_mend_119 rfl rfl ?_
                obtain ⟨hi, h⟩ := gin_some h
                refine va_iald hx hb hK hP 3 0 rfl rfl hi dX5_mend_120 ?_
                refine lv_iload hx hb dX5_mend_121 (lv_at hl 0 rfl) ?_
                refine lv_iconst (v := (-1 : Int32)) hx hb dX5_mend_123 (by decide) ?_
                refine lv_ixor hx hb dX5_mend_124 ?_
                refine lv_iand hx hb dX5_mend_125 ?_
                obtain ⟨hi, h⟩ := gin_some h
                refine va_iast hx hb hK hP hD hS 3 0 rfl rfl hi dX5_mend_126 (fun H locs hP hD hS => ?_)
                replace hP : va_P (dC, dI) vwCl [(ax, .inr (5, [.int vxn, .ref axr, .ref axb, .ref axj, .int vxk, .ref axi, .ref axu, .long vxA, .long vxB, .long vxC, .long vxE])), (axr, .inl (cy, 8, .inl fxr)), (axb, .inl (cy, 8, .inl fxb)), (axj, .inl (cy, 6, .inl (upd fxj l4.toNatClampNeg ((fxj l4.toNatClampNeg) &&& (q4 ^^^ (-1 : Int32)))))), (axi, .inl (cy, 8, .inl fxi)), (axu, .inl (cy, 8, .inl fxu))] H := hP
                replace hD : va_D A [(ax, .inr (5, [.int vxn, .ref axr, .ref axb, .ref axj, .int vxk, .ref axi, .ref axu, .long vxA, .long vxB, .long vxC, .long vxE])), (axr, .inl (cy, 8, .inl fxr)), (axb, .inl (cy, 8, .inl fxb)), (axj, .inl (cy, 6, .inl (upd fxj l4.toNatClampNeg ((fxj l4.toNatClampNeg) &&& (q4 ^^^ (-1 : Int32)))))), (axi, .inl (cy, 8, .inl fxi)), (axu, .inl (cy, 8, .inl fxu))] := hD
                refine lv_iinc (v := l4 + (1 : Int32)) (lv' := [(4, .int (l4 + (1 : Int32))), (5, .int q4), (0, .ref ax), (1, .int l1), (2, .int l2), (3, .int l3)]) hx hb dX5_mend_127 hl (k := 5) rfl rfl (by decide) rfl (fun ls hl => ?_)
                refine lv_goto (tgt := 84) hx hb dX5_mend_130 (by decide) ?_
                exact ih l1 l2 l3 (l4 + (1 : Int32)) fxr fxb (upd fxj l4.toNatClampNeg ((fxj l4.toNatClampNeg) &&& (q4 ^^^ (-1 : Int32)))) fxi fxu rs H locs ls h (lv_sub hl [2, 3, 4, 5, 0] rfl) hP hD hS K
              replace h := hq4
              refine lv_icmp_ne (tgt := 105) hx hb dX5_mend_98 (by decide) (fun c5 => ?_) (fun c5 => ?_)
              · rw [if_neg c5] at h
                refine lv_bipush (v := (63 : Int32)) hx hb dX5_mend_105 (by decide) ?_
                refine lv_iload_n hx hb dX5_mend_107 rfl (lv_at hl 3 rfl) ?_
                refine lv_iconst (v := (-1 : Int32)) hx hb dX5_mend_108 (by decide) ?_
                refine lv_ixor hx hb dX5_mend_109 ?_
                refine lv_iand hx hb dX5_mend_110 ?_
                have h0 := Option.some.inj h
                subst h0
                exact Jq4 H locs ls (lv_sub hl [0, 1, 2, 3, 4] rfl) hP hD hS
              · rw [if_pos c5] at h
                refine lv_iload_n hx hb dX5_mend_101 rfl (lv_at hl 3 rfl) ?_
                refine lv_goto (tgt := 111) hx hb dX5_mend_102 (by decide) ?_
                have h0 := Option.some.inj h
                subst h0
                exact Jq4 H locs ls (lv_sub hl [0, 1, 2, 3, 4] rfl) hP hD hS
        obtain ⟨q8, hq8, h⟩ := bd_some h
        refine L84_6 FU p0 r2.1 r3 (0 : Int32) fxr fxb fxj r2.2.1 r2.2.2 q8 H locs ls hq8 (lv_sub hl [3, 4, 2, 1, 0] rfl) hP hD hS (fun H locs ls hl hP hD hS => ?_)
        refine lv_iload_n hx hb dX5_mend_133 rfl (lv_at hl 2 rfl) ?_
        have h0 := Option.some.inj h
        subst h0
        exact W.iret hx hb hr (fun t ht hW => ⟨⟨_, (), rfl, rfl, QW_mk hP hK hD ht hW⟩, hS.F ht⟩) hS.2.2 dX5_mend_134
      · rw [if_pos c11] at h
        refine lv_aload_n hx hb dX5_mend_62 rfl (lv_at hl 1 rfl) ?_
        refine lv_aload_n hx hb dX5_mend_63 rfl (lv_at hl 1 rfl) ?_
        obtain ⟨r9, hr9, h⟩ := bd_some h
        have hFc := va_free (wc := [(ax, .inr (5, [.int vxn, .ref axr, .ref axb, .ref axj, .int vxk, .ref axi, .ref axu, .long vxA, .long vxB, .long vxC, .long vxE])), (axb, .inl (cy, 8, .inl fxb))]) hD hS hA [0, 2] rfl
        refine va_calli (va_runV (As := []) (rest := [.ref ax]) ⟨hx, hb, hml, hown, hts⟩ (c_X5_nearestTable l dC dI cy ax axr axb axj axi axu H.size vxn vxk vxA vxB vxC vxE fxb  r9 hr9) (cwV 0 hts gX5_mend_X5_nearestTable rfl rfl rfl (by decide +kernel) ⟨Nat.le_of_ble_eq_true rfl, Nat.le_of_ble_eq_true rfl⟩) ⟨PW_fb, va_recv hK hP (ci := 5) (q0 := 0) rfl rfl, PW_pre (hP.sub (ws' := [(ax, .inr (5, [.int vxn, .ref axr, .ref axb, .ref axj, .int vxk, .ref axi, .ref axu, .long vxA, .long vxB, .long vxC, .long vxE])), (axb, .inl (cy, 8, .inl fxb))]) [0, 2] rfl) hK (hD.sub [0, 2] (by decide) rfl) hN⟩ rfl rfl hl.1 rfl (lv_room (Nat.le_of_ble_eq_true rfl)) dX5_mend_64 ⟨Nat.zero_le _, Nat.zero_le _⟩) hS (fun q _ h => hFc q h) hFc (fun rz u t H locs ht hvm hw hB hz1 hk1 hS => ?_)
        obtain ⟨hP, hD⟩ := jn (wr := [(axr, .inl (cy, 8, .inl fxr)), (axj, .inl (cy, 6, .inl fxj)), (axi, .inl (cy, 8, .inl r2.2.1)), (axu, .inl (cy, 8, .inl r2.2.2))]) (w1 := [(ax, .inr (5, [.int vxn, .ref axr, .ref axb, .ref axj, .int vxk, .ref axi, .ref axu, .long vxA, .long vxB, .long vxC, .long vxE])), (axb, .inl (cy, 8, .inl fxb))]) (ws' := [(ax, .inr (5, [.int vxn, .ref axr, .ref axb, .ref axj, .int vxk, .ref axi, .ref axu, .long vxA, .long vxB, .long vxC, .long vxE])), (axr, .inl (cy, 8, .inl fxr)), (axb, .inl (cy, 8, .inl fxb)), (axj, .inl (cy, 6, .inl fxj)), (axi, .inl (cy, 8, .inl r2.2.1)), (axu, .inl (cy, 8, .inl r2.2.2))]) hP hD [0, 2] [1, 3, 4, 5] rfl rfl (by decide) (by decide) hk1 hFc hB ht [4, 0, 5, 1, 2, 3] rfl (by decide) rfl
        replace hw := hw.symm
        subst hw
        clear hFc hB hk1 hz1 hvm
        obtain ⟨r10, hr10, h⟩ := bd_some h
        have hFc := va_free (wc := [(ax, .inr (5, [.int vxn, .ref axr, .ref axb, .ref axj, .int vxk, .ref axi, .ref axu, .long vxA, .long vxB, .long vxC, .long vxE])), (axb, .inl (cy, 8, .inl fxb))]) hD hS hA [0, 2] rfl
        refine va_calli (va_runV (As := [.int r9]) (rest := []) ⟨hx, hb, hml, hown, hts⟩ (c_X5_linear l dC dI cy ax axr axb axj axi axu H.size vxn vxk vxA vxB vxC vxE fxb r9 r10 hr10) (cwV 1 hts gX5_mend_X5_linear rfl rfl rfl (by decide +kernel) ⟨Nat.le_of_ble_eq_true rfl, Nat.le_of_ble_eq_true rfl⟩) ⟨PW_fb, va_recv hK hP (ci := 5) (q0 := 0) rfl rfl, PW_pre (hP.sub (ws' := [(ax, .inr (5, [.int vxn, .ref axr, .ref axb, .ref axj, .int vxk, .ref axi, .ref axu, .long vxA, .long vxB, .long vxC, .long vxE])), (axb, .inl (cy, 8, .inl fxb))]) [0, 2] rfl) hK (hD.sub [0, 2] (by decide) rfl) hN⟩ rfl rfl hl.1 rfl (lv_room (Nat.le_of_ble_eq_true rfl)) dX5_mend_67 ⟨Nat.zero_le _, Nat.zero_le _⟩) hS (fun q _ h => hFc q h) hFc (fun rz u t H locs ht hvm hw hB hz1 hk1 hS => ?_)
        obtain ⟨hP, hD⟩ := jn (wr := [(axr, .inl (cy, 8, .inl fxr)), (axj, .inl (cy, 6, .inl fxj)), (axi, .inl (cy, 8, .inl r2.2.1)), (axu, .inl (cy, 8, .inl r2.2.2))]) (w1 := [(ax, .inr (5, [.int vxn, .ref axr, .ref axb, .ref axj, .int vxk, .ref axi, .ref axu, .long vxA, .long vxB, .long vxC, .long vxE])), (axb, .inl (cy, 8, .inl r10.2))]) (ws' := [(ax, .inr (5, [.int vxn, .ref axr, .ref axb, .ref axj, .int vxk, .ref axi, .ref axu, .long vxA, .long vxB, .long vxC, .long vxE])), (axr, .inl (cy, 8, .inl fxr)), (axb, .inl (cy, 8, .inl r10.2)), (axj, .inl (cy, 6, .inl fxj)), (axi, .inl (cy, 8, .inl r2.2.1)), (axu, .inl (cy, 8, .inl r2.2.2))]) hP hD [0, 2] [1, 3, 4, 5] rfl rfl (by decide) (by decide) hk1 hFc hB ht [4, 0, 5, 1, 2, 3] rfl (by decide) rfl
        replace hw := hw.symm
        subst hw
        clear hFc hB hk1 hz1 hvm
        refine lv_pop hx hb dX5_mend_70 rfl ?_
        refine lv_goto (tgt := 133) hx hb dX5_mend_71 (by decide) ?_
        refine lv_iload_n hx hb dX5_mend_133 rfl (lv_at hl 0 rfl) ?_
        have h0 := Option.some.inj h
        subst h0
        exact W.iret hx hb hr (fun t ht hW => ⟨⟨_, (), rfl, rfl, QW_mk hP hK hD ht hW⟩, hS.F ht⟩) hS.2.2 dX5_mend_134
    · rw [if_neg c16] at h
      refine lv_aload_n hx hb dX5_mend_21 rfl (lv_at hl 1 rfl) ?_
      refine lv_iload_n hx hb dX5_mend_22 rfl (lv_at hl 2 rfl) ?_
      obtain ⟨r12, hr12, h⟩ := bd_some h
      have hFc := va_free (wc := [(ax, .inr (5, [.int vxn, .ref axr, .ref axb, .ref axj, .int vxk, .ref axi, .ref axu, .long vxA, .long vxB, .long vxC, .long vxE])), (axr, .inl (cy, 8, .inl fxr)), (axi, .inl (cy, 8, .inl r2.2.1)), (axu, .inl (cy, 8, .inl r2.2.2))]) hD hS hA [0, 1, 4, 5] rfl
      refine va_callv (va_runV (As := [.int p0]) (rest := []) ⟨hx, hb, hml, hown, hts⟩ (c_X5_findNearest l dC dI cy ax axr axb axj axi axu H.size vxn vxk vxA vxB vxC vxE fxr r2.2.1 r2.2.2 p0 r12 hr12) (cwV 1 hts gX5_mend_X5_findNearest rfl rfl rfl (by decide +kernel) ⟨Nat.le_of_ble_eq_true rfl, Nat.le_of_ble_eq_true rfl⟩) ⟨PW_fb, va_recv hK hP (ci := 5) (q0 := 0) rfl rfl, PW_pre (hP.sub (ws' := [(ax, .inr (5, [.int vxn, .ref axr, .ref axb, .ref axj, .int vxk, .ref axi, .ref axu, .long vxA, .long vxB, .long vxC, .long vxE])), (axr, .inl (cy, 8, .inl fxr)), (axi, .inl (cy, 8, .inl r2.2.1)), (axu, .inl (cy, 8, .inl r2.2.2))]) [0, 1, 4, 5] rfl) hK (hD.sub [0, 1, 4, 5] (by decide) rfl) hN⟩ rfl rfl hl.1 rfl (lv_room (Nat.le_of_ble_eq_true rfl)) dX5_mend_23 ⟨Nat.zero_le _, Nat.zero_le _⟩) hS (fun q _ h => hFc q h) hFc (fun u t H locs ht hvm hw hB hz1 hk1 hS => ?_)
      obtain ⟨hP, hD⟩ := jn (wr := [(axb, .inl (cy, 8, .inl fxb)), (axj, .inl (cy, 6, .inl fxj))]) (w1 := [(ax, .inr (5, [.int vxn, .ref axr, .ref axb, .ref axj, .int vxk, .ref axi, .ref axu, .long vxA, .long vxB, .long vxC, .long vxE])), (axr, .inl (cy, 8, .inl fxr)), (axi, .inl (cy, 8, .inl r12.1)), (axu, .inl (cy, 8, .inl r12.2))]) (ws' := [(ax, .inr (5, [.int vxn, .ref axr, .ref axb, .ref axj, .int vxk, .ref axi, .ref axu, .long vxA, .long vxB, .long vxC, .long vxE])), (axr, .inl (cy, 8, .inl fxr)), (axb, .inl (cy, 8, .inl fxb)), (axj, .inl (cy, 6, .inl fxj)), (axi, .inl (cy, 8, .inl r12.1)), (axu, .inl (cy, 8, .inl r12.2))]) hP hD [0, 1, 4, 5] [2, 3] rfl rfl (by decide) (by decide) hk1 hFc hB ht [2, 3, 0, 1, 4, 5] rfl (by decide) rfl
      clear hFc hB hk1 hz1 hvm
      refine lv_iconst (v := (0 : Int32)) hx hb dX5_mend_26 (by decide) ?_
      refine lv_istore_n (lv' := [(3, .int (0 : Int32)), (2, .int r2.1), (0, .ref ax), (1, .int p0)]) hx hb dX5_mend_27 rfl hl (by decide) rfl (fun ls hl => ?_)
      have L28_13 : ∀ (n : Nat) (l1 : Int32) (l2 : Int32) (l3 : Int32) (fxr : Nat → Int32) (fxb : Nat → Int32) (fxj : Nat → Int32) (fxi : Nat → Int32) (fxu : Nat → Int32) (rs : (Int32 × (Nat → Int32))) (H : Heap) (locs : List Loc) (ls : Array Slot), fX5_mend_L28 n l3 vxn fxr fxi = some rs → lv_has ls 6 [(0, .ref ax), (1, .int l1), (2, .int l2), (3, .int l3)] → va_P (dC, dI) vwCl [(ax, .inr (5, [.int vxn, .ref axr, .ref axb, .ref axj, .int vxk, .ref axi, .ref axu, .long vxA, .long vxB, .long vxC, .long vxE])), (axr, .inl (cy, 8, .inl fxr)), (axb, .inl (cy, 8, .inl fxb)), (axj, .inl (cy, 6, .inl fxj)), (axi, .inl (cy, 8, .inl fxi)), (axu, .inl (cy, 8, .inl fxu))] H → va_D A [(ax, .inr (5, [.int vxn, .ref axr, .ref axb, .ref axj, .int vxk, .ref axi, .ref axu, .long vxA, .long vxB, .long vxC, .long vxE])), (axr, .inl (cy, 8, .inl fxr)), (axb, .inl (cy, 8, .inl fxb)), (axj, .inl (cy, 6, .inl fxj)), (axi, .inl (cy, 8, .inl fxi)), (axu, .inl (cy, 8, .inl fxu))] → va_S A s.heap H locs → (∀ (H : Heap) (locs : List Loc) (ls : Array Slot), lv_has ls 6 [(0, .ref ax), (1, .int l1), (2, .int l2), (3, .int rs.1)] → va_P (dC, dI) vwCl [(ax, .inr (5, [.int vxn, .ref axr, .ref axb, .ref axj, .int vxk, .ref axi, .ref axu, .long vxA, .long vxB, .long vxC, .long vxE])), (axr, .inl (cy, 8, .inl rs.2)), (axb, .inl (cy, 8, .inl fxb)), (axj, .inl (cy, 6, .inl fxj)), (axi, .inl (cy, 8, .inl fxi)), (axu, .inl (cy, 8, .inl fxu))] H → va_D A [(ax, .inr (5, [.int vxn, .ref axr, .ref axb, .ref axj, .int vxk, .ref axi, .ref axu, .long vxA, .long vxB, .long vxC, .long vxE])), (axr, .inl (cy, 8, .inl rs.2)), (axb, .inl (cy, 8, .inl fxb)), (axj, .inl (cy, 6, .inl fxj)), (axi, .inl (cy, 8, .inl fxi)), (axu, .inl (cy, 8, .inl fxu))] → va_S A s.heap H locs → W p l e (headSpec wsX5_mend ({ frames := 5, cells := 0, slots := 0, locals := 120 })).room s m (([.ref ax, .int p0] : List Value).toArray) below meth c H locs 0 0 (MQ below (va_Qi (fun (r : Int32) (_ : Unit) => r = res.1) (QW (dC, dI) cy A [(ax, .inr (5, [.int vxn, .ref axr, .ref axb, .ref axj, .int vxk, .ref axi, .ref axu, .long vxA, .long vxB, .long vxC, .long vxE])), (axr, .inl (cy, 8, .inl res.2.1)), (axb, .inl (cy, 8, .inl res.2.2.1)), (axj, .inl (cy, 6, .inl res.2.2.2.1)), (axi, .inl (cy, 8, .inl res.2.2.2.2.1)), (axu, .inl (cy, 8, .inl res.2.2.2.2.2))]) A) (([.ref ax, .int p0] : List Value).toArray) s 0 0 A) (F0 m 54 ls [])) → W p l e (headSpec wsX5_mend ({ frames := 5, cells := 0, slots := 0, locals := 120 })).room s m (([.ref ax, .int p0] : List Value).toArray) below meth c H locs 0 0 (MQ below (va_Qi (fun (r : Int32) (_ : Unit) => r = res.1) (QW (dC, dI) cy A [(ax, .inr (5, [.int vxn, .ref axr, .ref axb, .ref axj, .int vxk, .ref axi, .ref axu, .long vxA, .long vxB, .long vxC, .long vxE])), (axr, .inl (cy, 8, .inl res.2.1)), (axb, .inl (cy, 8, .inl res.2.2.1)), (axj, .inl (cy, 6, .inl res.2.2.2.1)), (axi, .inl (cy, 8, .inl res.2.2.2.2.1)), (axu, .inl (cy, 8, .inl res.2.2.2.2.2))]) A) (([.ref ax, .int p0] : List Value).toArray) s 0 0 A) (F0 m 28 ls []) := by
        intro n
        induction n with
        | zero =>
          intro l1 l2 l3 fxr fxb fxj fxi fxu rs H locs ls h
          rw [fX5_mend_L28_0] at h
          cases h
        | succ n ih =>
          intro l1 l2 l3 fxr fxb fxj fxi fxu rs H locs ls h hl hP hD hS K
          rw [fX5_mend_L28_s] at h
          refine lv_iload_n hx hb dX5_mend_28 rfl (lv_at hl 3 rfl) ?_
          refine lv_aload_n hx hb dX5_mend_29 rfl (lv_at hl 0 rfl) ?_
          refine va_get (D := (dC, dI)) (ci := 5) (v := .int vxn) (C := RX5) (T := TX5) (N := 11) hx hb hts hin_X5 hown hK hP 0 rfl rfl 0 (by decide) (hf_7) (fun _ h9 => h9) rfl dX5_mend_30 ?_
          refine lv_icmp_ge (tgt := 54) hx hb dX5_mend_33 (by decide) (fun c13 => ?_) (fun c13 => ?_)
          · rw [if_pos c13] at h
            have h0 := Option.some.inj h
            subst h0
            exact K H locs ls (lv_sub hl [0, 1, 2, 3] rfl) hP hD hS
          · rw [if_neg c13] at h
            refine lv_aload_n hx hb dX5_mend_36 rfl (lv_at hl 0 rfl) ?_
            refine va_get (D := (dC, dI)) (ci := 5) (v := .ref axr) (C := RX5) (T := TX5) (N := 11) hx hb hts hin_X5 hown hK hP 0 rfl rfl 1 (by decide) (hf_13) (fun _ h9 => h9) rfl dX5_mend_37 ?_
            refine lv_iload_n hx hb dX5_mend_40 rfl (lv_at hl 3 rfl) ?_
            refine lv_aload_n hx hb dX5_mend_41 rfl (lv_at hl 0 rfl) ?_
            refine va_get (D := (dC, dI)) (ci := 5) (v := .ref axi) (C := RX5) (T := TX5) (N := 11) hx hb hts hin_X5 hown hK hP 0 rfl rfl 5 (by decide) (hf_26) (fun _ h9 => h9) rfl dX5_mend_42 ?_
            refine lv_iload_n hx hb dX5_mend_45 rfl (lv_at hl 3 rfl) ?_
            obtain ⟨hi, h⟩ := gin_some h
            refine va_iald hx hb hK hP 4 0 rfl rfl hi dX5_mend_46 ?_
            obtain ⟨hi, h⟩ := gin_some h
            refine va_iast hx hb hK hP hD hS 1 0 rfl rfl hi dX5_mend_47 (fun H locs hP hD hS => ?_)
            replace hP : va_P (dC, dI) vwCl [(ax, .inr (5, [.int vxn, .ref axr, .ref axb, .ref axj, .int vxk, .ref axi, .ref axu, .long vxA, .long vxB, .long vxC, .long vxE])), (axr, .inl (cy, 8, .inl (upd fxr l3.toNatClampNeg (fxi l3.toNatClampNeg)))), (axb, .inl (cy, 8, .inl fxb)), (axj, .inl (cy, 6, .inl fxj)), (axi, .inl (cy, 8, .inl fxi)), (axu, .inl (cy, 8, .inl fxu))] H := hP
            replace hD : va_D A [(ax, .inr (5, [.int vxn, .ref axr, .ref axb, .ref axj, .int vxk, .ref axi, .ref axu, .long vxA, .long vxB, .long vxC, .long vxE])), (axr, .inl (cy, 8, .inl (upd fxr l3.toNatClampNeg (fxi l3.toNatClampNeg)))), (axb, .inl (cy, 8, .inl fxb)), (axj, .inl (cy, 6, .inl fxj)), (axi, .inl (cy, 8, .inl fxi)), (axu, .inl (cy, 8, .inl fxu))] := hD
            refine lv_iinc (v := l3 + (1 : Int32)) (lv' := [(3, .int (l3 + (1 : Int32))), (0, .ref ax), (1, .int l1), (2, .int l2)]) hx hb dX5_mend_48 hl (k := 3) rfl rfl (by decide) rfl (fun ls hl => ?_)
            refine lv_goto (tgt := 28) hx hb dX5_mend_51 (by decide) ?_
            exact ih l1 l2 (l3 + (1 : Int32)) (upd fxr l3.toNatClampNeg (fxi l3.toNatClampNeg)) fxb fxj fxi fxu rs H locs ls h (lv_sub hl [1, 2, 3, 0] rfl) hP hD hS K
      obtain ⟨q15, hq15, h⟩ := bd_some h
      refine L28_13 FU p0 r2.1 (0 : Int32) fxr fxb fxj r12.1 r12.2 q15 H locs ls hq15 (lv_sub hl [2, 3, 1, 0] rfl) hP hD hS (fun H locs ls hl hP hD hS => ?_)
      refine lv_goto (tgt := 133) hx hb dX5_mend_54 (by decide) ?_
      refine lv_iload_n hx hb dX5_mend_133 rfl (lv_at hl 2 rfl) ?_
      have h0 := Option.some.inj h
      subst h0
      exact W.iret hx hb hr (fun t ht hW => ⟨⟨_, (), rfl, rfl, QW_mk hP hK hD ht hW⟩, hS.F ht⟩) hS.2.2 dX5_mend_134
  · rw [if_pos c17] at h
    refine lv_bipush (v := (-2 : Int32)) hx hb dX5_mend_7 (by decide) ?_
    have h0 := Option.some.inj h
    subst h0
    exact W.iret hx hb hr (fun t ht hW => ⟨⟨_, (), rfl, rfl, QW_mk hP hK hD ht hW⟩, hS.F ht⟩) hS.2.2 dX5_mend_9
