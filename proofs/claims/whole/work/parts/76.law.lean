set_option maxHeartbeats 4000000 in
set_option maxRecDepth 100000 in
/-- THE LAW, from its entry -/
theorem whole_start {p : Program} {e : Env} {s : State} {m : MethodId} {below : List Frame} {meth : Method} {c : Code} (l : Launch) {b L : Nat} {xs : Nat → Int32} (hL : L ≤ 2560) (C0 : lw_At p s m meth c b L xs) : W p l e room_1 s m #[Value.ref b] below meth c s.heap [] 0 0 (lw_Z below #[Value.ref b] s) (entryFrame m ([Value.ref b] : List Value).toArray 4) := by
  obtain ⟨hx, hb, hr, hml, hown0, hts0, hX, hbl, hlocks, hgv⟩ := id C0
  have hown : s.vm.findClass RL = some m.cls := hown0
  have hts : ∀ w ∈ wsL_law, w.before #[Value.ref b] s = true := fun w h => hts0 w (wsL_law_in w h)
  have hA : ∀ q : Nat, s.heap.size ≤ q → (fun q : Nat => s.heap.size ≤ q) q := fun _ h => h
  have hbA : ¬ (fun q : Nat => s.heap.size ≤ q) b := Nat.not_le.mpr hbl
  have hN : NW s := NW_of hts0
  obtain ⟨cy, hcy1, hcy2⟩ := cy_of (hts (.arrayClass .int) (by decide +kernel))
  obtain ⟨c0, iS0, hKn0⟩ := u_known (C := RX0) (T := TX0) (N := 3) (n := 3) hts0 inX0 (hts (.instantiable RX0 3) (by decide +kernel))
  obtain ⟨c1, iS1, hKn1⟩ := u_known (C := RX1) (T := TX1) (N := 1) (n := 1) hts0 inX1 (hts (.instantiable RX1 1) (by decide +kernel))
  obtain ⟨c2, iS2, hKn2⟩ := u_known (C := RX2) (T := TX2) (N := 2) (n := 2) hts0 inX2 (hts (.instantiable RX2 2) (by decide +kernel))
  obtain ⟨c3, iS3, hKn3⟩ := u_known (C := RX3) (T := TX3) (N := 1) (n := 1) hts0 inX3 (hts (.instantiable RX3 1) (by decide +kernel))
  obtain ⟨c4, iS4, hKn4⟩ := u_known (C := RX4) (T := TX4) (N := 6) (n := 6) hts0 inX4 (hts (.instantiable RX4 6) (by decide +kernel))
  obtain ⟨c5, iS5, hKn5⟩ := u_known (C := RX5) (T := TX5) (N := 11) (n := 11) hts0 inX5 (hts (.instantiable RX5 11) (by decide +kernel))
  obtain ⟨dC, dI, hKc⟩ : ∃ (dC : Nat → ClassId) (dI : Nat → Nat → Nat), ∀ (k : Nat) (q : vw_C), vwCl[k]? = some q → u_Kn s q.1 q.2.1 q.2.2 (dC k) (dI k) := by
    refine ⟨fun k => if k = 0 then c0 else if k = 1 then c1 else if k = 2 then c2 else if k = 3 then c3 else if k = 4 then c4 else c5, fun k => if k = 0 then iS0 else if k = 1 then iS1 else if k = 2 then iS2 else if k = 3 then iS3 else if k = 4 then iS4 else iS5, ?_⟩
    intro k q hq
    match k, hq with
    | 0, hq => cases hq; exact hKn0
    | 1, hq => cases hq; exact hKn1
    | 2, hq => cases hq; exact hKn2
    | 3, hq => cases hq; exact hKn3
    | 4, hq => cases hq; exact hKn4
    | 5, hq => cases hq; exact hKn5
    | k + 6, hq => simp [vwCl] at hq
  have hS : va_S (fun q : Nat => s.heap.size ≤ q) s.heap s.heap [] := va_S.rf
  have hK : va_K (dC, dI) vwCl [(cy, .int)] s := ⟨hKc, fun k q h => by
    match k, h with
    | 0, h => cases h; exact ⟨hcy1, hcy2⟩
    | k + 1, h => simp at h⟩
  have hP : va_P (dC, dI) vwCl [] s.heap := fun k q h => by simp at h
  have hD : va_D (fun q : Nat => s.heap.size ≤ q) [] := ⟨fun i j p q h => by simp at h, fun k q h => by simp at h⟩
  have hl := lv_entry ([.ref b]) (n := 4) (Nat.le_of_ble_eq_true rfl)
  rw [lg_entry_eq]
  generalize (lg_sl ([.ref b]) ++ List.replicate (4 - (lg_sl ([.ref b])).length) Slot.unset).toArray = ls at hl ⊢
  replace hl : lv_has ls 4 [(0, .ref b)] := hl
  refine va_new (ci := 4) (fs := [.null, .null, .null, .null, .null, .int 0]) (C := RX4) (T := TX4) (N := 6) hx hb hts0 inX4 tyX4 tyX4_ok hown (hts (.classLink RL 7 RX4) (by decide +kernel)) (hts (.instantiable RX4 6) (by decide +kernel)) (hts (.initialized RX4) (by decide +kernel)) hK hP hD hS hA rfl (fun j hj => by rcases (show j = 0 ∨ j = 1 ∨ j = 2 ∨ j = 3 ∨ j = 4 ∨ j = 5 by omega) with rfl | rfl | rfl | rfl | rfl | rfl <;> rfl) (Nat.le_of_ble_eq_true rfl) (Nat.le_of_ble_eq_true rfl) dL_law_0 (fun ax H hP hD hS => ?_)
  replace hP : va_P (dC, dI) vwCl [(ax, .inr (4, [.null, .null, .null, .null, .null, .int 0]))] H := hP
  replace hD : va_D (fun q : Nat => s.heap.size ≤ q) [(ax, .inr (4, [.null, .null, .null, .null, .null, .int 0]))] := hD
  refine W.widen (k := 1) (n := 6) (by omega) (by omega) ?_
  refine lv_dup hx hb dL_law_3 rfl ?_
  have hFc := va_free (wc := [(ax, .inr (4, [.null, .null, .null, .null, .null, .int 0]))]) hD hS hA [0] rfl
  refine va_callv (va_runI (As := []) (rest := [.ref ax]) ⟨hx, hb, hml, hown, hts⟩ (c_X4_init l dC dI cy ax H.size) (cwI 0 hts gL_law_X4_init rfl rfl rfl (hts (.initialized RX4) (by decide +kernel)) (hts (.methodLink RL 9 yX4_init) (by decide +kernel)) (hts (.instanceMethod yX4_init) (by decide +kernel)) rfl (by decide +kernel) ⟨Nat.le_of_ble_eq_true rfl, Nat.le_of_ble_eq_true rfl⟩) ⟨PW_fb, PW_pre (hP.sub (ws' := [(ax, .inr (4, [.null, .null, .null, .null, .null, .int 0]))]) [0] rfl) hK (hD.sub [0] (by decide) rfl) hN⟩ rfl rfl hl.1 rfl (lv_room (Nat.le_of_ble_eq_true rfl)) dL_law_4 ⟨Nat.le_of_ble_eq_true rfl, Nat.le_of_ble_eq_true rfl⟩) hS (fun q _ h => hFc q h) hFc (fun u t H locs ht hvm hw hB hz1 hk1 hS => ?_)
  obtain ⟨axr, e_axr⟩ : ∃ z, z = u 0 := ⟨_, rfl⟩
  obtain ⟨axrd, e_axrd⟩ : ∃ z, z = u 1 := ⟨_, rfl⟩
  obtain ⟨axt, e_axt⟩ : ∃ z, z = u 2 := ⟨_, rfl⟩
  obtain ⟨axtd, e_axtd⟩ : ∃ z, z = u 3 := ⟨_, rfl⟩
  obtain ⟨axm, e_axm⟩ : ∃ z, z = u 4 := ⟨_, rfl⟩
  obtain ⟨axmn, e_axmn⟩ : ∃ z, z = u 5 := ⟨_, rfl⟩
  obtain ⟨axmnd, e_axmnd⟩ : ∃ z, z = u 6 := ⟨_, rfl⟩
  obtain ⟨axmg, e_axmg⟩ : ∃ z, z = u 7 := ⟨_, rfl⟩
  obtain ⟨axmgd, e_axmgd⟩ : ∃ z, z = u 8 := ⟨_, rfl⟩
  obtain ⟨axmc, e_axmc⟩ : ∃ z, z = u 9 := ⟨_, rfl⟩
  obtain ⟨axb, e_axb⟩ : ∃ z, z = u 10 := ⟨_, rfl⟩
  obtain ⟨axe, e_axe⟩ : ∃ z, z = u 11 := ⟨_, rfl⟩
  obtain ⟨axej, e_axej⟩ : ∃ z, z = u 12 := ⟨_, rfl⟩
  rw [← e_axr, ← e_axrd, ← e_axt, ← e_axtd, ← e_axm, ← e_axmn, ← e_axmnd, ← e_axmg, ← e_axmgd, ← e_axmc, ← e_axb, ← e_axe, ← e_axej] at hB
  obtain ⟨hP, hD⟩ := jn (wr := []) (w1 := [(ax, .inr (4, [.ref axr, .ref axt, .ref axm, .ref axb, .ref axe, .int (3 : Int32)])), (axr, .inr (2, [.ref axrd, .int (8 : Int32)])), (axrd, .inl (cy, 8, .inl (fun _ => 0))), (axt, .inr (2, [.ref axtd, .int (8 : Int32)])), (axtd, .inl (cy, 8, .inl (fun _ => 0))), (axm, .inr (0, [.ref axmn, .ref axmg, .ref axmc])), (axmn, .inr (2, [.ref axmnd, .int (8 : Int32)])), (axmnd, .inl (cy, 8, .inl (fun _ => 0))), (axmg, .inr (2, [.ref axmgd, .int (8 : Int32)])), (axmgd, .inl (cy, 8, .inl (fun _ => 0))), (axmc, .inl (cy, 36, .inl (fun _ => 0))), (axb, .inr (3, [.int (0 : Int32)])), (axe, .inr (1, [.ref axej])), (axej, .inl (cy, 6, .inl (fun _ => 0)))]) (ws' := [(ax, .inr (4, [.ref axr, .ref axt, .ref axm, .ref axb, .ref axe, .int (3 : Int32)])), (axr, .inr (2, [.ref axrd, .int (8 : Int32)])), (axrd, .inl (cy, 8, .inl (fun _ => 0))), (axt, .inr (2, [.ref axtd, .int (8 : Int32)])), (axtd, .inl (cy, 8, .inl (fun _ => 0))), (axm, .inr (0, [.ref axmn, .ref axmg, .ref axmc])), (axmn, .inr (2, [.ref axmnd, .int (8 : Int32)])), (axmnd, .inl (cy, 8, .inl (fun _ => 0))), (axmg, .inr (2, [.ref axmgd, .int (8 : Int32)])), (axmgd, .inl (cy, 8, .inl (fun _ => 0))), (axmc, .inl (cy, 36, .inl (fun _ => 0))), (axb, .inr (3, [.int (0 : Int32)])), (axe, .inr (1, [.ref axej])), (axej, .inl (cy, 6, .inl (fun _ => 0)))]) hP hD [0] [] rfl rfl (by decide) (by decide) hk1 hFc hB ht [0, 1, 2, 3, 4, 5, 6, 7, 8, 9, 10, 11, 12, 13] rfl (by decide) rfl
  clear hFc hB hk1 hz1 hvm hw
  refine W.widen (k := 14) (n := 93) (by omega) (by omega) ?_
  refine lv_astore_n (lv' := [(1, .ref ax), (0, .ref b)]) hx hb dL_law_7 rfl hl (by decide) rfl (fun ls hl => ?_)
  refine va_new (ci := 5) (fs := [.int 0, .null, .null, .null, .int 0, .null, .null, .long 0, .long 0, .long 0, .long 0]) (C := RX5) (T := TX5) (N := 11) hx hb hts0 inX5 tyX5 tyX5_ok hown (hts (.classLink RL 10 RX5) (by decide +kernel)) (hts (.instantiable RX5 11) (by decide +kernel)) (hts (.initialized RX5) (by decide +kernel)) hK hP hD hS hA rfl (fun j hj => by rcases (show j = 0 ∨ j = 1 ∨ j = 2 ∨ j = 3 ∨ j = 4 ∨ j = 5 ∨ j = 6 ∨ j = 7 ∨ j = 8 ∨ j = 9 ∨ j = 10 by omega) with rfl | rfl | rfl | rfl | rfl | rfl | rfl | rfl | rfl | rfl | rfl <;> rfl) (Nat.le_of_ble_eq_true rfl) (Nat.le_of_ble_eq_true rfl) dL_law_8 (fun ay H hP hD hS => ?_)
  replace hP : va_P (dC, dI) vwCl [(ax, .inr (4, [.ref axr, .ref axt, .ref axm, .ref axb, .ref axe, .int (3 : Int32)])), (axr, .inr (2, [.ref axrd, .int (8 : Int32)])), (axrd, .inl (cy, 8, .inl (fun _ => 0))), (axt, .inr (2, [.ref axtd, .int (8 : Int32)])), (axtd, .inl (cy, 8, .inl (fun _ => 0))), (axm, .inr (0, [.ref axmn, .ref axmg, .ref axmc])), (axmn, .inr (2, [.ref axmnd, .int (8 : Int32)])), (axmnd, .inl (cy, 8, .inl (fun _ => 0))), (axmg, .inr (2, [.ref axmgd, .int (8 : Int32)])), (axmgd, .inl (cy, 8, .inl (fun _ => 0))), (axmc, .inl (cy, 36, .inl (fun _ => 0))), (axb, .inr (3, [.int (0 : Int32)])), (axe, .inr (1, [.ref axej])), (axej, .inl (cy, 6, .inl (fun _ => 0))), (ay, .inr (5, [.int 0, .null, .null, .null, .int 0, .null, .null, .long 0, .long 0, .long 0, .long 0]))] H := hP
  replace hD : va_D (fun q : Nat => s.heap.size ≤ q) [(ax, .inr (4, [.ref axr, .ref axt, .ref axm, .ref axb, .ref axe, .int (3 : Int32)])), (axr, .inr (2, [.ref axrd, .int (8 : Int32)])), (axrd, .inl (cy, 8, .inl (fun _ => 0))), (axt, .inr (2, [.ref axtd, .int (8 : Int32)])), (axtd, .inl (cy, 8, .inl (fun _ => 0))), (axm, .inr (0, [.ref axmn, .ref axmg, .ref axmc])), (axmn, .inr (2, [.ref axmnd, .int (8 : Int32)])), (axmnd, .inl (cy, 8, .inl (fun _ => 0))), (axmg, .inr (2, [.ref axmgd, .int (8 : Int32)])), (axmgd, .inl (cy, 8, .inl (fun _ => 0))), (axmc, .inl (cy, 36, .inl (fun _ => 0))), (axb, .inr (3, [.int (0 : Int32)])), (axe, .inr (1, [.ref axej])), (axej, .inl (cy, 6, .inl (fun _ => 0))), (ay, .inr (5, [.int 0, .null, .null, .null, .int 0, .null, .null, .long 0, .long 0, .long 0, .long 0]))] := hD
  refine W.widen (k := 15) (n := 104) (by omega) (by omega) ?_
  refine lv_dup hx hb dL_law_11 rfl ?_
  have hFc := va_free (wc := [(ay, .inr (5, [.int 0, .null, .null, .null, .int 0, .null, .null, .long 0, .long 0, .long 0, .long 0]))]) hD hS hA [14] rfl
  refine va_callv (va_runI (As := []) (rest := [.ref ay]) ⟨hx, hb, hml, hown, hts⟩ (c_X5_init l dC dI cy ay H.size) (cwI 0 hts gL_law_X5_init rfl rfl rfl (hts (.initialized RX5) (by decide +kernel)) (hts (.methodLink RL 12 yX5_init) (by decide +kernel)) (hts (.instanceMethod yX5_init) (by decide +kernel)) rfl (by decide +kernel) ⟨Nat.le_of_ble_eq_true rfl, Nat.le_of_ble_eq_true rfl⟩) ⟨PW_fb, PW_pre (hP.sub (ws' := [(ay, .inr (5, [.int 0, .null, .null, .null, .int 0, .null, .null, .long 0, .long 0, .long 0, .long 0]))]) [14] rfl) hK (hD.sub [14] (by decide) rfl) hN⟩ rfl rfl hl.1 rfl (lv_room (Nat.le_of_ble_eq_true rfl)) dL_law_12 ⟨Nat.le_of_ble_eq_true rfl, Nat.le_of_ble_eq_true rfl⟩) hS (fun q _ h => hFc q h) hFc (fun u t H locs ht hvm hw hB hz1 hk1 hS => ?_)
  obtain ⟨ayr, e_ayr⟩ : ∃ z, z = u 0 := ⟨_, rfl⟩
  obtain ⟨ayb, e_ayb⟩ : ∃ z, z = u 1 := ⟨_, rfl⟩
  obtain ⟨ayj, e_ayj⟩ : ∃ z, z = u 2 := ⟨_, rfl⟩
  obtain ⟨ayi, e_ayi⟩ : ∃ z, z = u 3 := ⟨_, rfl⟩
  obtain ⟨ayu, e_ayu⟩ : ∃ z, z = u 4 := ⟨_, rfl⟩
  rw [← e_ayr, ← e_ayb, ← e_ayj, ← e_ayi, ← e_ayu] at hB
  obtain ⟨hP, hD⟩ := jn (wr := [(ax, .inr (4, [.ref axr, .ref axt, .ref axm, .ref axb, .ref axe, .int (3 : Int32)])), (axr, .inr (2, [.ref axrd, .int (8 : Int32)])), (axrd, .inl (cy, 8, .inl (fun _ => 0))), (axt, .inr (2, [.ref axtd, .int (8 : Int32)])), (axtd, .inl (cy, 8, .inl (fun _ => 0))), (axm, .inr (0, [.ref axmn, .ref axmg, .ref axmc])), (axmn, .inr (2, [.ref axmnd, .int (8 : Int32)])), (axmnd, .inl (cy, 8, .inl (fun _ => 0))), (axmg, .inr (2, [.ref axmgd, .int (8 : Int32)])), (axmgd, .inl (cy, 8, .inl (fun _ => 0))), (axmc, .inl (cy, 36, .inl (fun _ => 0))), (axb, .inr (3, [.int (0 : Int32)])), (axe, .inr (1, [.ref axej])), (axej, .inl (cy, 6, .inl (fun _ => 0)))]) (w1 := [(ay, .inr (5, [.int (8 : Int32), .ref ayr, .ref ayb, .ref ayj, .int (3 : Int32), .ref ayi, .ref ayu, .long (0 : Int64), .long (0 : Int64), .long (0 : Int64), .long (0 : Int64)])), (ayr, .inl (cy, 8, .inl (fun _ => 0))), (ayb, .inl (cy, 8, .inl (fun _ => 0))), (ayj, .inl (cy, 6, .inl (fun _ => 0))), (ayi, .inl (cy, 8, .inl (fun _ => 0))), (ayu, .inl (cy, 8, .inl (fun _ => 0)))]) (ws' := [(ax, .inr (4, [.ref axr, .ref axt, .ref axm, .ref axb, .ref axe, .int (3 : Int32)])), (axr, .inr (2, [.ref axrd, .int (8 : Int32)])), (axrd, .inl (cy, 8, .inl (fun _ => 0))), (axt, .inr (2, [.ref axtd, .int (8 : Int32)])), (axtd, .inl (cy, 8, .inl (fun _ => 0))), (axm, .inr (0, [.ref axmn, .ref axmg, .ref axmc])), (axmn, .inr (2, [.ref axmnd, .int (8 : Int32)])), (axmnd, .inl (cy, 8, .inl (fun _ => 0))), (axmg, .inr (2, [.ref axmgd, .int (8 : Int32)])), (axmgd, .inl (cy, 8, .inl (fun _ => 0))), (axmc, .inl (cy, 36, .inl (fun _ => 0))), (axb, .inr (3, [.int (0 : Int32)])), (axe, .inr (1, [.ref axej])), (axej, .inl (cy, 6, .inl (fun _ => 0))), (ay, .inr (5, [.int (8 : Int32), .ref ayr, .ref ayb, .ref ayj, .int (3 : Int32), .ref ayi, .ref ayu, .long (0 : Int64), .long (0 : Int64), .long (0 : Int64), .long (0 : Int64)])), (ayr, .inl (cy, 8, .inl (fun _ => 0))), (ayb, .inl (cy, 8, .inl (fun _ => 0))), (ayj, .inl (cy, 6, .inl (fun _ => 0))), (ayi, .inl (cy, 8, .inl (fun _ => 0))), (ayu, .inl (cy, 8, .inl (fun _ => 0)))]) hP hD [14] [0, 1, 2, 3, 4, 5, 6, 7, 8, 9, 10, 11, 12, 13] rfl rfl (by decide) (by decide) hk1 hFc hB ht [0, 1, 2, 3, 4, 5, 6, 7, 8, 9, 10, 11, 12, 13, 14, 15, 16, 17, 18, 19] rfl (by decide) rfl
  clear hFc hB hk1 hz1 hvm hw
  refine W.widen (k := 20) (n := 142) (by omega) (by omega) ?_
  refine lv_astore_n (lv' := [(2, .ref ay), (1, .ref ax), (0, .ref b)]) hx hb dL_law_15 rfl hl (by decide) rfl (fun ls hl => ?_)
  refine lv_iconst (v := (0 : Int32)) hx hb dL_law_16 (by decide) ?_
  refine lv_istore_n (lv' := [(3, .int (0 : Int32)), (2, .ref ay), (1, .ref ax), (0, .ref b)]) hx hb dL_law_17 rfl hl (by decide) rfl (fun ls hl => ?_)
  exact law_loop C0 hN hK hL (L + 6) 0 0 (by omega) (by omega) rfl (3 : Int32) (8 : Int32) (fun _ => 0) (8 : Int32) (fun _ => 0) (8 : Int32) (fun _ => 0) (8 : Int32) (fun _ => 0) (fun _ => 0) (0 : Int32) (fun _ => 0) (8 : Int32) (3 : Int32) (0 : Int64) (0 : Int64) (0 : Int64) (0 : Int64) (fun _ => 0) (fun _ => 0) (fun _ => 0) (fun _ => 0) (fun _ => 0) H locs ls Inv_start (lv_sub hl [3, 2, 1, 0] rfl) hP hD hS
set_option maxHeartbeats 4000000 in
theorem lw_walk (l : Launch) (b : Addr) (xs : List Int32) : MetFree l x (headSpec (Jvm.Cond.code x code maxLocals ret :: tables_1) room_1) (lw_P b xs) (fun _ _ _ _ _ => True) lw_Q := by
  refine MetFree.of_bodyS (code := code) (maxLocals := maxLocals) (ret := ret) (by decide) ?_ ?_
  · intro args s m h hn
    obtain ⟨meth, c, h1, h2, h3, h4, h5, h6, -, -⟩ := Cond.code_spec hn (atoms_spec (ws := Jvm.Cond.code x code maxLocals ret :: tables_1) h _ List.mem_cons_self)
    exact ⟨meth, c, h1, h2, h3, h4, h5, h6⟩
  · intro p e s m args below meth c s₁ B hml0 hP _
    obtain ⟨rfl, hx, hbd, hgv⟩ := hP
    obtain ⟨scr, harrAt, hlist, hof, hsmall⟩ := hx
    obtain ⟨hcb, hkn, -, -⟩ := State.arrayAt?_spec harrAt
    have hown : s.vm.findClass R_law = some m.cls := findClass_of_methodNamed B.named
    have hts0 : ∀ c ∈ (Jvm.Cond.code x code maxLocals ret :: tables_1), c.before #[Value.ref b] s = true := atoms_spec (ws := Jvm.Cond.code x code maxLocals ret :: tables_1) B.pre
    have hts : ∀ w ∈ lw_tbl, w.before #[Value.ref b] s = true := k2_hts_sels lw_privs (fun w hw => hts0 w (List.mem_cons_of_mem _ hw)) lw_privs_ok
    have hml : c.maxLocals = 4 := B.maxLocals_eq (hts0 _ List.mem_cons_self)
    have X₀ : Stand p l e room_1 s m #[Value.ref b] below meth c s₁ [] 0 0 := Stand.of_body B
    have hh0 : s₁.heap = s.heap := by rw [B.state]; rfl
    have hsz : scr.slots.size = xs.length := by rw [← Array.length_toList, hlist, List.length_map]
    have hval : ∀ j : Nat, j < xs.length → scr.slots[j]? = some (.int (xs.getD j 0)) := fun j hj => by
      rw [← Array.getElem?_toList, hlist]
      simp [hj]
    have hbl : b < s.heap.size := (Array.getElem?_eq_some_iff.mp hcb).1
    have hX : va_X b xs.length (fun j => xs.getD j 0) s s.heap := ⟨scr, hcb, hof, hkn, hsz, hval⟩
    have K : W p l e room_1 s m #[Value.ref b] below meth c s₁.heap [] 0 0 (lw_Z below #[Value.ref b] s) (entryFrame m ([Value.ref b] : List Value).toArray 4) := by
      rw [hh0]
      exact whole_start l hbd ⟨B.exec, B.bytes, B.returns, hml, hown, hts, hX, hbl, B.notSynchronized, hgv⟩
    obtain ⟨t, a1, o, b1, b2, b3⟩ := K s₁ rfl X₀
    exact ⟨t, o, a1, b1, b2, b3⟩
theorem lw_pre_spec {args : Array Value} {s : State} (h : (Jvm.Cond.and given_1 narrow_1).before args s = true) (hr : rest_1_c.before args s = true) : ∃ (b : Addr) (xs : List Int32), lw_P b xs args s := by
  have hs := flat_of_before _ h
  have hq := flat_of_before _ hr
  have hc : (Cond.count 1).before args s = true := hs _ (by decide +kernel)
  have harr : (Cond.arrayOf (.arg 0) .int).before args s = true := hs _ (by decide +kernel)
  have hle : (Cond.le (.length (.arg 0)) (.int 2560)).before args s = true := hs _ (by decide +kernel)
  have hlen : (Cond.isInt (.length (.arg 0))).before args s = true := hq _ (by decide +kernel)
  have hall : (Cond.all (.arg 0) (.isInt (.elem (.arg 0) (.index 0)))).before args s = true := hq _ (by decide +kernel)
  obtain ⟨b, xs, hb, hx⟩ := State.ints_of_pre rfl harr hlen hall
  have hsm : xs.length < 2 ^ 31 := hx.choose_spec.2.2.2
  have hev : (Term.length (.arg 0)).eval args s none [] s = some (.int xs.length.toInt32) := hx.length_eval hb
  have hv := Cond.le_ints hev (show (Term.int 2560).eval args s none [] s = some (.int 2560) from rfl)
  have hd : xs.length.toInt32 ≤ 2560 := by
    simpa [Cond.before, Cond.holds, hv] using hle
  have hN : xs.length ≤ 2560 := (Int32.ofNat_le_ofNat hsm (by decide)).mp (show Int32.ofNat xs.length ≤ Int32.ofNat 2560 from hd)
  exact ⟨b, xs, Cond.one_arg hc (show args[0]? = some (.ref b) from hb), hx, hN, h⟩
theorem lw_comes (l : Launch) : Comes l x (Jvm.Cond.code x code maxLocals ret :: tables_1) room_1 (fun tb e args s => Calls_1 tb e args s ∧ rest_1 tb e args s ∧ Pre_1 tb e args s)
    (fun _ _ args s o t => lw_Q args s o t) := by
  intro p e ha hc hk s m args below hf hfit hheap happ hpre
  obtain ⟨b, xs, hP⟩ := lw_pre_spec hpre.2.2 hpre.2.1
  obtain ⟨k, o, h1, h2, h3, hQ⟩ := lw_walk l b xs p e ha hc hk s m args below hf ((Spec.applies_iff_loose hf).mp happ).1 hP trivial
  exact ⟨k, o, h1, h2, h3, hQ⟩
theorem lw_frame {s t : State} {o : Outcome} {args : Array Value} (h : Framed s o t [] 20 142) :
    Framed s o t (fieldLocs frame_1_writes args s ++ arrayLocs frame_1_arrays args s ++ staticLocs frame_1_statics s) 20 142 := h
theorem lw_limb (L : Cond) (hL : ∀ (args : Array Value) (s t : State), L.after args s (.returned (some (.int 1))) t = true) :
    ArmFor flags0 classFile x code maxLocals ret World_1 tables_1 room_1 Calls_1 rest_1 Pre_1
      (fun tb e a s o t => postC L tb e a s o t ∧ Framed s o t (fieldLocs frame_1_writes a s ++ arrayLocs frame_1_arrays a s ++ staticLocs frame_1_statics s) 20 142) := by
  intro l _ _ _ p e ha hc hk s m args below hf hfit hheap happ hpre
  obtain ⟨k, o, h1, h2, h3, rfl, hF⟩ := lw_comes l p e ha hc hk s m args below hf hfit hheap happ hpre
  exact ⟨k, _, h1, h2, h3, hL args s _, lw_frame hF⟩
theorem i_vc : Claimed_1_1 ∧ Claimed_1_2 := ⟨lw_limb limb_1_1 (fun args s t => by simp [limb_1_1, Cond.after, Cond.holds, Cond.value]), lw_limb limb_1_2 (fun args s t => Cond.after_iff.mpr (by
  first | (rw [show limb_1_2 = Cond.eq .result (.int 1) from rfl, Cond.eq_ints (x := 1) (y := 1) rfl rfl]; simp; done) | (simp [limb_1_2, Cond.value, Term.eval]; done)))⟩
