set_option maxHeartbeats 4000000 in
set_option maxRecDepth 100000 in
theorem law_loop {p : Program} {l : Launch} {e : Env} {s : State} {m : MethodId} {below : List Frame} {meth : Method} {c : Code} {dC : Nat → ClassId} {dI : Nat → Nat → Nat} {cy : ClassId} {b L : Nat} {xs : Nat → Int32} {ax axr axrd axt axtd axm axmn axmnd axmg axmgd axmc axb axe axej ay ayr ayb ayj ayi ayu : Nat} (C0 : lw_At p s m meth c b L xs) (hN : NW s) (hK : va_K (dC, dI) vwCl [(cy, .int)] s) (hL : L ≤ 2560) : ∀ (n j : Nat) (x3 : Int32), j ≤ L + 5 → L + 5 < j + n → x3 = nI j → ∀ (vxk : Int32) (vxrs : Int32) (fxrd : Nat → Int32) (vxts : Int32) (fxtd : Nat → Int32) (vxmns : Int32) (fxmnd : Nat → Int32) (vxmgs : Int32) (fxmgd : Nat → Int32) (fxmc : Nat → Int32) (vxbb : Int32) (fxej : Nat → Int32) (vyn : Int32) (vyk : Int32) (vyA : Int64) (vyB : Int64) (vyC : Int64) (vyE : Int64) (fyr : Nat → Int32) (fyb : Nat → Int32) (fyj : Nat → Int32) (fyi : Nat → Int32) (fyu : Nat → Int32) (H : Heap) (locs : List Loc) (ls : Array Slot), Inv vxk vxrs fxrd vxbb fxej vyn vyk fyr fyb fyj → lv_has ls 4 [(0, .ref b), (1, .ref ax), (2, .ref ay), (3, .int x3)] → va_P (dC, dI) vwCl [(ax, .inr (4, [.ref axr, .ref axt, .ref axm, .ref axb, .ref axe, .int vxk])), (axr, .inr (2, [.ref axrd, .int vxrs])), (axrd, .inl (cy, 8, .inl fxrd)), (axt, .inr (2, [.ref axtd, .int vxts])), (axtd, .inl (cy, 8, .inl fxtd)), (axm, .inr (0, [.ref axmn, .ref axmg, .ref axmc])), (axmn, .inr (2, [.ref axmnd, .int vxmns])), (axmnd, .inl (cy, 8, .inl fxmnd)), (axmg, .inr (2, [.ref axmgd, .int vxmgs])), (axmgd, .inl (cy, 8, .inl fxmgd)), (axmc, .inl (cy, 36, .inl fxmc)), (axb, .inr (3, [.int vxbb])), (axe, .inr (1, [.ref axej])), (axej, .inl (cy, 6, .inl fxej)), (ay, .inr (5, [.int vyn, .ref ayr, .ref ayb, .ref ayj, .int vyk, .ref ayi, .ref ayu, .long vyA, .long vyB, .long vyC, .long vyE])), (ayr, .inl (cy, 8, .inl fyr)), (ayb, .inl (cy, 8, .inl fyb)), (ayj, .inl (cy, 6, .inl fyj)), (ayi, .inl (cy, 8, .inl fyi)), (ayu, .inl (cy, 8, .inl fyu))] H → va_D (fun q : Nat => s.heap.size ≤ q) [(ax, .inr (4, [.ref axr, .ref axt, .ref axm, .ref axb, .ref axe, .int vxk])), (axr, .inr (2, [.ref axrd, .int vxrs])), (axrd, .inl (cy, 8, .inl fxrd)), (axt, .inr (2, [.ref axtd, .int vxts])), (axtd, .inl (cy, 8, .inl fxtd)), (axm, .inr (0, [.ref axmn, .ref axmg, .ref axmc])), (axmn, .inr (2, [.ref axmnd, .int vxmns])), (axmnd, .inl (cy, 8, .inl fxmnd)), (axmg, .inr (2, [.ref axmgd, .int vxmgs])), (axmgd, .inl (cy, 8, .inl fxmgd)), (axmc, .inl (cy, 36, .inl fxmc)), (axb, .inr (3, [.int vxbb])), (axe, .inr (1, [.ref axej])), (axej, .inl (cy, 6, .inl fxej)), (ay, .inr (5, [.int vyn, .ref ayr, .ref ayb, .ref ayj, .int vyk, .ref ayi, .ref ayu, .long vyA, .long vyB, .long vyC, .long vyE])), (ayr, .inl (cy, 8, .inl fyr)), (ayb, .inl (cy, 8, .inl fyb)), (ayj, .inl (cy, 6, .inl fyj)), (ayi, .inl (cy, 8, .inl fyi)), (ayu, .inl (cy, 8, .inl fyu))] → va_S (fun q : Nat => s.heap.size ≤ q) s.heap H locs → W p l e room_1 s m #[Value.ref b] below meth c H locs 20 142 (lw_Z below #[Value.ref b] s) (F0 m 18 ls []) := by
  obtain ⟨hx, hb, hr, hml, hown0, hts0, hX, hbl, hlocks, hgv⟩ := id C0
  have hown : s.vm.findClass RL = some m.cls := hown0
  have hts : ∀ w ∈ wsL_law, w.before #[Value.ref b] s = true := fun w h => hts0 w (wsL_law_in w h)
  have hA : ∀ q : Nat, s.heap.size ≤ q → (fun q : Nat => s.heap.size ≤ q) q := fun _ h => h
  have hbA : ¬ (fun q : Nat => s.heap.size ≤ q) b := Nat.not_le.mpr hbl
  intro n
  induction n with
  | zero =>
    intro j x3 h1 h2
    exact absurd h2 (by omega)
  | succ n ih =>
    intro j x3 hj hjn ex3 vxk vxrs fxrd vxts fxtd vxmns fxmnd vxmgs fxmgd fxmc vxbb fxej vyn vyk vyA vyB vyC vyE fyr fyb fyj fyi fyu H locs ls hI hl hP hD hS
    refine lv_iload_n hx hb dL_law_18 rfl (lv_at hl 3 rfl) ?_
    refine lv_aload_n hx hb dL_law_19 rfl (lv_at hl 0 rfl) ?_
    refine va_slen hx hb hX hbl hbA hS dL_law_20 ?_
    refine lv_iconst (v := (5 : Int32)) hx hb dL_law_21 (by decide) ?_
    refine lv_isub hx hb dL_law_22 ?_
    refine lv_icmp_gt (tgt := 670) hx hb dL_law_23 (by decide) (fun c_1 => ?_) (fun c_1 => ?_)
    · refine lv_iconst (v := (1 : Int32)) hx hb dL_law_670 (by decide) ?_
      refine va_forget (fun q hq => hS.2.2 q hq) ?_
      exact lw_ret hx hb hr hlocks dL_law_671
    · have hlt : j + 5 ≤ L := by
        rcases Nat.lt_or_ge L (j + 5) with q | q
        · exfalso
          refine c_1 (Int32.lt_iff_toInt_lt.mpr ?_)
          rw [ex3, nI_toInt (by omega)]
          show (nI L - nI 5).toInt < _
          rw [pk_sub_toInt (by omega) (by decide)]
          omega
        · exact q
      have i0 : vp_in x3 L := by rw [ex3]; exact vp_in_nI (by omega) (by omega)
      have i1 : vp_in (x3 + (1 : Int32)) L := by rw [ex3, show (1 : Int32) = nI 1 from rfl, nI_add]; exact vp_in_nI (by omega) (by omega)
      have i2 : vp_in (x3 + (2 : Int32)) L := by rw [ex3, show (2 : Int32) = nI 2 from rfl, nI_add]; exact vp_in_nI (by omega) (by omega)
      have i3 : vp_in (x3 + (3 : Int32)) L := by rw [ex3, show (3 : Int32) = nI 3 from rfl, nI_add]; exact vp_in_nI (by omega) (by omega)
      have i4 : vp_in (x3 + (4 : Int32)) L := by rw [ex3, show (4 : Int32) = nI 4 from rfl, nI_add]; exact vp_in_nI (by omega) (by omega)
      have K : (∀ (vxk : Int32) (vxrs : Int32) (fxrd : Nat → Int32) (vxts : Int32) (fxtd : Nat → Int32) (vxmns : Int32) (fxmnd : Nat → Int32) (vxmgs : Int32) (fxmgd : Nat → Int32) (fxmc : Nat → Int32) (vxbb : Int32) (fxej : Nat → Int32) (vyn : Int32) (vyk : Int32) (vyA : Int64) (vyB : Int64) (vyC : Int64) (vyE : Int64) (fyr : Nat → Int32) (fyb : Nat → Int32) (fyj : Nat → Int32) (fyi : Nat → Int32) (fyu : Nat → Int32) (H : Heap) (locs : List Loc) (ls : Array Slot), Inv vxk vxrs fxrd vxbb fxej vyn vyk fyr fyb fyj → lv_has ls 4 [(0, .ref b), (1, .ref ax), (2, .ref ay), (3, .int x3)] → va_P (dC, dI) vwCl [(ax, .inr (4, [.ref axr, .ref axt, .ref axm, .ref axb, .ref axe, .int vxk])), (axr, .inr (2, [.ref axrd, .int vxrs])), (axrd, .inl (cy, 8, .inl fxrd)), (axt, .inr (2, [.ref axtd, .int vxts])), (axtd, .inl (cy, 8, .inl fxtd)), (axm, .inr (0, [.ref axmn, .ref axmg, .ref axmc])), (axmn, .inr (2, [.ref axmnd, .int vxmns])), (axmnd, .inl (cy, 8, .inl fxmnd)), (axmg, .inr (2, [.ref axmgd, .int vxmgs])), (axmgd, .inl (cy, 8, .inl fxmgd)), (axmc, .inl (cy, 36, .inl fxmc)), (axb, .inr (3, [.int vxbb])), (axe, .inr (1, [.ref axej])), (axej, .inl (cy, 6, .inl fxej)), (ay, .inr (5, [.int vyn, .ref ayr, .ref ayb, .ref ayj, .int vyk, .ref ayi, .ref ayu, .long vyA, .long vyB, .long vyC, .long vyE])), (ayr, .inl (cy, 8, .inl fyr)), (ayb, .inl (cy, 8, .inl fyb)), (ayj, .inl (cy, 6, .inl fyj)), (ayi, .inl (cy, 8, .inl fyi)), (ayu, .inl (cy, 8, .inl fyu))] H → va_D (fun q : Nat => s.heap.size ≤ q) [(ax, .inr (4, [.ref axr, .ref axt, .ref axm, .ref axb, .ref axe, .int vxk])), (axr, .inr (2, [.ref axrd, .int vxrs])), (axrd, .inl (cy, 8, .inl fxrd)), (axt, .inr (2, [.ref axtd, .int vxts])), (axtd, .inl (cy, 8, .inl fxtd)), (axm, .inr (0, [.ref axmn, .ref axmg, .ref axmc])), (axmn, .inr (2, [.ref axmnd, .int vxmns])), (axmnd, .inl (cy, 8, .inl fxmnd)), (axmg, .inr (2, [.ref axmgd, .int vxmgs])), (axmgd, .inl (cy, 8, .inl fxmgd)), (axmc, .inl (cy, 36, .inl fxmc)), (axb, .inr (3, [.int vxbb])), (axe, .inr (1, [.ref axej])), (axej, .inl (cy, 6, .inl fxej)), (ay, .inr (5, [.int vyn, .ref ayr, .ref ayb, .ref ayj, .int vyk, .ref ayi, .ref ayu, .long vyA, .long vyB, .long vyC, .long vyE])), (ayr, .inl (cy, 8, .inl fyr)), (ayb, .inl (cy, 8, .inl fyb)), (ayj, .inl (cy, 6, .inl fyj)), (ayi, .inl (cy, 8, .inl fyi)), (ayu, .inl (cy, 8, .inl fyu))] → va_S (fun q : Nat => s.heap.size ≤ q) s.heap H locs → W p l e room_1 s m #[Value.ref b] below meth c H locs 20 142 (lw_Z below #[Value.ref b] s) (F0 m 664 ls [])) := by
        intro vxk vxrs fxrd vxts fxtd vxmns fxmnd vxmgs fxmgd fxmc vxbb fxej vyn vyk vyA vyB vyC vyE fyr fyb fyj fyi fyu H locs ls hI hl hP hD hS
        refine lv_iinc (v := x3 + (5 : Int32)) (lv' := [(3, .int (x3 + (5 : Int32))), (0, .ref b), (1, .ref ax), (2, .ref ay)]) hx hb dL_law_664 hl (k := 3) rfl rfl (by decide) rfl (fun ls hl => ?_)
        refine lv_goto (tgt := 18) hx hb dL_law_667 (by decide) ?_
        exact ih (j + 5) (x3 + (5 : Int32)) (by omega) (by omega) (by rw [ex3, show (5 : Int32) = nI 5 from rfl, nI_add]) vxk vxrs fxrd vxts fxtd vxmns fxmnd vxmgs fxmgd fxmc vxbb fxej vyn vyk vyA vyB vyC vyE fyr fyb fyj fyi fyu H locs ls hI (lv_sub hl [1, 2, 3, 0] rfl) hP hD hS
      refine lv_aload_n hx hb dL_law_26 rfl (lv_at hl 0 rfl) ?_
      refine lv_iload_n hx hb dL_law_27 rfl (lv_at hl 3 rfl) ?_
      refine va_sld hx hb hX hbl hbA hS i0 dL_law_28 ?_
      refine lv_bipush (v := (31 : Int32)) hx hb dL_law_29 (by decide) ?_
      refine lv_iand hx hb dL_law_31 ?_
      by_cases c0 : xs x3.toNatClampNeg &&& (31 : Int32) = (0 : Int32)
      · have e0 : (xs x3.toNatClampNeg &&& (31 : Int32)).toInt = 0 := by rw [c0]; rfl
        refine lv_tableIn (tgt := 116) hx hb dL_law_32 (by rw [e0]; decide) (by rw [e0]; decide) (by rw [e0]; rfl) (by decide) ?_
        exact lc_0 C0 hN hK i1 i2 i3 i4 K vxk vxrs fxrd vxts fxtd vxmns fxmnd vxmgs fxmgd fxmc vxbb fxej vyn vyk vyA vyB vyC vyE fyr fyb fyj fyi fyu H locs ls hI hl hP hD hS
      · by_cases c1 : xs x3.toNatClampNeg &&& (31 : Int32) = (1 : Int32)
        · have e1 : (xs x3.toNatClampNeg &&& (31 : Int32)).toInt = 1 := by rw [c1]; rfl
          refine lv_tableIn (tgt := 139) hx hb dL_law_32 (by rw [e1]; decide) (by rw [e1]; decide) (by rw [e1]; rfl) (by decide) ?_
          exact lc_1 C0 hN hK i1 i2 i3 i4 K vxk vxrs fxrd vxts fxtd vxmns fxmnd vxmgs fxmgd fxmc vxbb fxej vyn vyk vyA vyB vyC vyE fyr fyb fyj fyi fyu H locs ls hI hl hP hD hS
        · by_cases c2 : xs x3.toNatClampNeg &&& (31 : Int32) = (2 : Int32)
          · have e2 : (xs x3.toNatClampNeg &&& (31 : Int32)).toInt = 2 := by rw [c2]; rfl
            refine lv_tableIn (tgt := 172) hx hb dL_law_32 (by rw [e2]; decide) (by rw [e2]; decide) (by rw [e2]; rfl) (by decide) ?_
            exact lc_2 C0 hN hK i1 i2 i3 i4 K vxk vxrs fxrd vxts fxtd vxmns fxmnd vxmgs fxmgd fxmc vxbb fxej vyn vyk vyA vyB vyC vyE fyr fyb fyj fyi fyu H locs ls hI hl hP hD hS
          · by_cases c3 : xs x3.toNatClampNeg &&& (31 : Int32) = (3 : Int32)
            · have e3 : (xs x3.toNatClampNeg &&& (31 : Int32)).toInt = 3 := by rw [c3]; rfl
              refine lv_tableIn (tgt := 205) hx hb dL_law_32 (by rw [e3]; decide) (by rw [e3]; decide) (by rw [e3]; rfl) (by decide) ?_
              exact lc_3 C0 hN hK i1 i2 i3 i4 K vxk vxrs fxrd vxts fxtd vxmns fxmnd vxmgs fxmgd fxmc vxbb fxej vyn vyk vyA vyB vyC vyE fyr fyb fyj fyi fyu H locs ls hI hl hP hD hS
            · by_cases c4 : xs x3.toNatClampNeg &&& (31 : Int32) = (4 : Int32)
              · have e4 : (xs x3.toNatClampNeg &&& (31 : Int32)).toInt = 4 := by rw [c4]; rfl
                refine lv_tableIn (tgt := 228) hx hb dL_law_32 (by rw [e4]; decide) (by rw [e4]; decide) (by rw [e4]; rfl) (by decide) ?_
                exact lc_4 C0 hN hK i1 i2 i3 i4 K vxk vxrs fxrd vxts fxtd vxmns fxmnd vxmgs fxmgd fxmc vxbb fxej vyn vyk vyA vyB vyC vyE fyr fyb fyj fyi fyu H locs ls hI hl hP hD hS
              · by_cases c5 : xs x3.toNatClampNeg &&& (31 : Int32) = (5 : Int32)
                · have e5 : (xs x3.toNatClampNeg &&& (31 : Int32)).toInt = 5 := by rw [c5]; rfl
                  refine lv_tableIn (tgt := 287) hx hb dL_law_32 (by rw [e5]; decide) (by rw [e5]; decide) (by rw [e5]; rfl) (by decide) ?_
                  exact lc_5 C0 hN hK i1 i2 i3 i4 K vxk vxrs fxrd vxts fxtd vxmns fxmnd vxmgs fxmgd fxmc vxbb fxej vyn vyk vyA vyB vyC vyE fyr fyb fyj fyi fyu H locs ls hI hl hP hD hS
                · by_cases c6 : xs x3.toNatClampNeg &&& (31 : Int32) = (6 : Int32)
                  · have e6 : (xs x3.toNatClampNeg &&& (31 : Int32)).toInt = 6 := by rw [c6]; rfl
                    refine lv_tableIn (tgt := 310) hx hb dL_law_32 (by rw [e6]; decide) (by rw [e6]; decide) (by rw [e6]; rfl) (by decide) ?_
                    exact lc_6 C0 hN hK i1 i2 i3 i4 K vxk vxrs fxrd vxts fxtd vxmns fxmnd vxmgs fxmgd fxmc vxbb fxej vyn vyk vyA vyB vyC vyE fyr fyb fyj fyi fyu H locs ls hI hl hP hD hS
                  · by_cases c7 : xs x3.toNatClampNeg &&& (31 : Int32) = (7 : Int32)
                    · have e7 : (xs x3.toNatClampNeg &&& (31 : Int32)).toInt = 7 := by rw [c7]; rfl
                      refine lv_tableIn (tgt := 333) hx hb dL_law_32 (by rw [e7]; decide) (by rw [e7]; decide) (by rw [e7]; rfl) (by decide) ?_
                      exact lc_7 C0 hN hK i1 i2 i3 i4 K vxk vxrs fxrd vxts fxtd vxmns fxmnd vxmgs fxmgd fxmc vxbb fxej vyn vyk vyA vyB vyC vyE fyr fyb fyj fyi fyu H locs ls hI hl hP hD hS
                    · by_cases c8 : xs x3.toNatClampNeg &&& (31 : Int32) = (8 : Int32)
                      · have e8 : (xs x3.toNatClampNeg &&& (31 : Int32)).toInt = 8 := by rw [c8]; rfl
                        refine lv_tableIn (tgt := 356) hx hb dL_law_32 (by rw [e8]; decide) (by rw [e8]; decide) (by rw [e8]; rfl) (by decide) ?_
                        exact lc_8 C0 hN hK i1 i2 i3 i4 K vxk vxrs fxrd vxts fxtd vxmns fxmnd vxmgs fxmgd fxmc vxbb fxej vyn vyk vyA vyB vyC vyE fyr fyb fyj fyi fyu H locs ls hI hl hP hD hS
                      · by_cases c9 : xs x3.toNatClampNeg &&& (31 : Int32) = (9 : Int32)
                        · have e9 : (xs x3.toNatClampNeg &&& (31 : Int32)).toInt = 9 := by rw [c9]; rfl
                          refine lv_tableIn (tgt := 389) hx hb dL_law_32 (by rw [e9]; decide) (by rw [e9]; decide) (by rw [e9]; rfl) (by decide) ?_
                          exact lc_9 C0 hN hK i1 i2 i3 i4 K vxk vxrs fxrd vxts fxtd vxmns fxmnd vxmgs fxmgd fxmc vxbb fxej vyn vyk vyA vyB vyC vyE fyr fyb fyj fyi fyu H locs ls hI hl hP hD hS
                        · by_cases c10 : xs x3.toNatClampNeg &&& (31 : Int32) = (10 : Int32)
                          · have e10 : (xs x3.toNatClampNeg &&& (31 : Int32)).toInt = 10 := by rw [c10]; rfl
                            refine lv_tableIn (tgt := 412) hx hb dL_law_32 (by rw [e10]; decide) (by rw [e10]; decide) (by rw [e10]; rfl) (by decide) ?_
                            exact lc_10 C0 hN hK i1 i2 i3 i4 K vxk vxrs fxrd vxts fxtd vxmns fxmnd vxmgs fxmgd fxmc vxbb fxej vyn vyk vyA vyB vyC vyE fyr fyb fyj fyi fyu H locs ls hI hl hP hD hS
                          · by_cases c11 : xs x3.toNatClampNeg &&& (31 : Int32) = (11 : Int32)
                            · have e11 : (xs x3.toNatClampNeg &&& (31 : Int32)).toInt = 11 := by rw [c11]; rfl
                              refine lv_tableIn (tgt := 446) hx hb dL_law_32 (by rw [e11]; decide) (by rw [e11]; decide) (by rw [e11]; rfl) (by decide) ?_
                              exact lc_11 C0 hN hK i1 i2 i3 i4 K vxk vxrs fxrd vxts fxtd vxmns fxmnd vxmgs fxmgd fxmc vxbb fxej vyn vyk vyA vyB vyC vyE fyr fyb fyj fyi fyu H locs ls hI hl hP hD hS
                            · by_cases c12 : xs x3.toNatClampNeg &&& (31 : Int32) = (12 : Int32)
                              · have e12 : (xs x3.toNatClampNeg &&& (31 : Int32)).toInt = 12 := by rw [c12]; rfl
                                refine lv_tableIn (tgt := 489) hx hb dL_law_32 (by rw [e12]; decide) (by rw [e12]; decide) (by rw [e12]; rfl) (by decide) ?_
                                exact lc_12 C0 hN hK i1 i2 i3 i4 K vxk vxrs fxrd vxts fxtd vxmns fxmnd vxmgs fxmgd fxmc vxbb fxej vyn vyk vyA vyB vyC vyE fyr fyb fyj fyi fyu H locs ls hI hl hP hD hS
                              · by_cases c13 : xs x3.toNatClampNeg &&& (31 : Int32) = (13 : Int32)
                                · have e13 : (xs x3.toNatClampNeg &&& (31 : Int32)).toInt = 13 := by rw [c13]; rfl
                                  refine lv_tableIn (tgt := 542) hx hb dL_law_32 (by rw [e13]; decide) (by rw [e13]; decide) (by rw [e13]; rfl) (by decide) ?_
                                  exact lc_13 C0 hN hK i1 i2 i3 i4 K vxk vxrs fxrd vxts fxtd vxmns fxmnd vxmgs fxmgd fxmc vxbb fxej vyn vyk vyA vyB vyC vyE fyr fyb fyj fyi fyu H locs ls hI hl hP hD hS
                                · by_cases c14 : xs x3.toNatClampNeg &&& (31 : Int32) = (14 : Int32)
                                  · have e14 : (xs x3.toNatClampNeg &&& (31 : Int32)).toInt = 14 := by rw [c14]; rfl
                                    refine lv_tableIn (tgt := 575) hx hb dL_law_32 (by rw [e14]; decide) (by rw [e14]; decide) (by rw [e14]; rfl) (by decide) ?_
                                    exact lc_14 C0 hN hK i1 i2 i3 i4 K vxk vxrs fxrd vxts fxtd vxmns fxmnd vxmgs fxmgd fxmc vxbb fxej vyn vyk vyA vyB vyC vyE fyr fyb fyj fyi fyu H locs ls hI hl hP hD hS
                                  · by_cases c15 : xs x3.toNatClampNeg &&& (31 : Int32) = (15 : Int32)
                                    · have e15 : (xs x3.toNatClampNeg &&& (31 : Int32)).toInt = 15 := by rw [c15]; rfl
                                      refine lv_tableIn (tgt := 618) hx hb dL_law_32 (by rw [e15]; decide) (by rw [e15]; decide) (by rw [e15]; rfl) (by decide) ?_
                                      exact lc_15 C0 hN hK i1 i2 i3 i4 K vxk vxrs fxrd vxts fxtd vxmns fxmnd vxmgs fxmgd fxmc vxbb fxej vyn vyk vyA vyB vyC vyE fyr fyb fyj fyi fyu H locs ls hI hl hP hD hS
                                    · by_cases c16 : xs x3.toNatClampNeg &&& (31 : Int32) = (16 : Int32)
                                      · have e16 : (xs x3.toNatClampNeg &&& (31 : Int32)).toInt = 16 := by rw [c16]; rfl
                                        refine lv_tableIn (tgt := 641) hx hb dL_law_32 (by rw [e16]; decide) (by rw [e16]; decide) (by rw [e16]; rfl) (by decide) ?_
                                        exact lc_16 C0 hN hK i1 i2 i3 i4 K vxk vxrs fxrd vxts fxtd vxmns fxmnd vxmgs fxmgd fxmc vxbb fxej vyn vyk vyA vyB vyC vyE fyr fyb fyj fyi fyu H locs ls hI hl hP hD hS
                                      · have hout := tb_out (x := xs x3.toNatClampNeg &&& (31 : Int32)) (n := 17) (by decide) (fun k hk => by rcases (show k = 0 ∨ k = 1 ∨ k = 2 ∨ k = 3 ∨ k = 4 ∨ k = 5 ∨ k = 6 ∨ k = 7 ∨ k = 8 ∨ k = 9 ∨ k = 10 ∨ k = 11 ∨ k = 12 ∨ k = 13 ∨ k = 14 ∨ k = 15 ∨ k = 16 by omega) with rfl | rfl | rfl | rfl | rfl | rfl | rfl | rfl | rfl | rfl | rfl | rfl | rfl | rfl | rfl | rfl | rfl <;> assumption)
                                        refine lv_tableOut (tgt := 664) hx hb dL_law_32 hout (by decide) ?_
                                        exact K vxk vxrs fxrd vxts fxtd vxmns fxmnd vxmgs fxmgd fxmc vxbb fxej vyn vyk vyA vyB vyC vyE fyr fyb fyj fyi fyu H locs ls hI hl hP hD hS
