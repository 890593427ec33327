/-! base: nest words, worlds before and behind a call, guards of the pure functions -/
def bo (r : Int32) : Prop := narrow .boolean (.int r) = .int r
theorem bo_0 : bo 0 := rfl
theorem bo_1 : bo 1 := rfl
def nw_F48 : Cond := .fieldLinkNest RX4 48 "FewLooks$Row" "size" "I" "FewLooks"
def nw_F59 : Cond := .fieldLinkNest RX4 59 "FewLooks$Row" "digits" "[I" "FewLooks"
def nw_F77 : Cond := .fieldLinkNest RX4 77 "FewLooks$Table" "bits" "I" "FewLooks"
def nw_F104 : Cond := .fieldLinkNest RX4 104 "FewLooks$Mender" "near" "LFewLooks$Row;" "FewLooks"
def nw_M48 : Cond := .fieldLinkNest RX0 48 "FewLooks$Row" "size" "I" "FewLooks"
def nw_M56 : Cond := .fieldLinkNest RX0 56 "FewLooks$Row" "digits" "[I" "FewLooks"
def nw_I9 : Cond := .methodLinkNest RX4 9 yX2_init "FewLooks"
def nw_I21 : Cond := .methodLinkNest RX4 21 yX0_init "FewLooks"
def nw_I28 : Cond := .methodLinkNest RX4 28 yX3_init "FewLooks"
def nw_I35 : Cond := .methodLinkNest RX4 35 yX1_init "FewLooks"
def nw_I11 : Cond := .methodLinkNest RX0 11 yX2_init "FewLooks"
def NW (U : State) : Prop := va_Nw nw_F48 U ∧ va_Nw nw_F59 U ∧ va_Nw nw_F77 U ∧ va_Nw nw_F104 U ∧ va_Nw nw_M48 U ∧ va_Nw nw_M56 U ∧ va_Nw nw_I9 U ∧ va_Nw nw_I21 U ∧ va_Nw nw_I28 U ∧ va_Nw nw_I35 U ∧ va_Nw nw_I11 U
theorem NW.warm {s U : State} (hW : s.WarmedH U.vm) (h : NW s) : NW U := by
  obtain ⟨h1, h2, h3, h4, h5, h6, h7, h8, h9, h10, h11⟩ := h
  exact ⟨h1.warmF hW, h2.warmF hW, h3.warmF hW, h4.warmF hW, h5.warmF hW, h6.warmF hW, h7.warmM hW, h8.warmM hW, h9.warmM hW, h10.warmM hW, h11.warmM hW⟩
theorem NW.same {s U : State} (e : s.vm = U.vm) (h : NW s) : NW U := by
  obtain ⟨h1, h2, h3, h4, h5, h6, h7, h8, h9, h10, h11⟩ := h
  exact ⟨h1.same rfl e, h2.same rfl e, h3.same rfl e, h4.same rfl e, h5.same rfl e, h6.same rfl e, h7.same rfl e, h8.same rfl e, h9.same rfl e, h10.same rfl e, h11.same rfl e⟩
def PW (D : va_G) (cy : ClassId) (sz : Nat) (ws : va_W) (U : State) : Prop := U.heap.size = sz ∧ va_P D vwCl ws U.heap ∧ va_K D vwCl [(cy, .int)] U ∧ va_D (fun _ => True) ws ∧ NW U
def QW (D : va_G) (cy : ClassId) (A : Nat → Prop) (ws : va_W) (_ : Unit) (t : State) : Prop := va_P D vwCl ws t.heap ∧ va_K D vwCl [(cy, .int)] t ∧ va_D A ws
theorem PW_fb {av : List Value} {D : va_G} {cy : ClassId} {sz : Nat} {ws : va_W} : FrameBlind (va_Pc av (PW D cy sz ws)) := by
  intro a U g mk q
  obtain ⟨q0, q1, qP, qK, qD, qN⟩ := q
  exact ⟨q0, q1, qP, va_K.moved (u := U) (U := U.calling g mk a) (Vm.Alike.refl U.vm) qK, qD, NW.same (s := U) (U := U.calling g mk a) rfl qN⟩
theorem PW_pre {D : va_G} {cy : ClassId} {ws : va_W} {A : Nat → Prop} {s : State} {H : Heap} {av : List Value} (hP : va_P D vwCl ws H) (hK : va_K D vwCl [(cy, .int)] s) (hD : va_D A ws) (hN : NW s) : ∀ U : State, U.heap = H → s.WarmedH U.vm → va_Pc av (PW D cy H.size ws) av.toArray U :=
  fun U hU hW => ⟨rfl, by rw [hU], by rw [hU]; exact hP, va_K.moved hW.alike hK, hD.weaken (fun _ _ _ _ => trivial), hN.warm hW⟩
theorem QW_mk {D : va_G} {cy : ClassId} {ws : va_W} {A : Nat → Prop} {s t : State} {H : Heap} (hP : va_P D vwCl ws H) (hK : va_K D vwCl [(cy, .int)] s) (hD : va_D A ws) (ht : t.heap = H) (hW : s.WarmedH t.vm) : QW D cy A ws () t :=
  ⟨by rw [ht]; exact hP, va_K.moved hW.alike hK, hD⟩
theorem jn {A0 : Nat → Prop} {D : va_G} {cy : ClassId} {ws wc wr w1 ws' : va_W} {H H1 : Heap} {t : State} {u : Unit} (hP : va_P D vwCl ws H) (hD : va_D A0 ws) (isC isR : List Nat) (hC : isC.map (fun i => ws[i]?) = wc.map some) (hR : isR.map (fun i => ws[i]?) = wr.map some) (hn : va_nd isR = true) (hdis : ∀ i ∈ isR, i ∉ isC)
    (hk : ∀ q : Nat, q < H.size → ¬ va_A wc H.size q → H1[q]? = H[q]?) (hF : ∀ q, va_A wc H.size q → A0 q) (hB : QW D cy (va_A wc H.size) w1 u t) (ht : t.heap = H1) (perm : List Nat) (hp : perm.filterMap (fun i => (wr ++ w1)[i]?) = ws') (hpn : va_nd perm = true) (hp2 : perm.map (fun i => (wr ++ w1)[i]?) = ws'.map some) : va_P D vwCl ws' H1 ∧ va_D A0 ws' := by
  obtain ⟨hP1, _, hD1⟩ := hB
  rw [ht] at hP1
  obtain ⟨h1, h2⟩ := va_join hP hD isC isR hC hR hn hdis hk hF hP1 hD1
  exact ⟨h1.sub perm hp, h2.sub perm hpn hp2⟩
def gin {α : Type} (i : Int32) (n : Nat) (x : Option α) : Option α := if i < 0 ∨ n ≤ i.toNatClampNeg then none else x
theorem gin_some {α : Type} {i : Int32} {n : Nat} {x : Option α} {y : α} (h : gin i n x = some y) : vp_in i n ∧ x = some y := by
  unfold gin at h
  split at h
  · cases h
  · exact ⟨by assumption, h⟩
theorem gin_of {α : Type} {i : Int32} {n : Nat} {x : Option α} (h : vp_in i n) : gin i n x = x := if_neg h
theorem gin_nI {α : Type} {k n : Nat} {x : Option α} (h : k < n) (hn : n < 2 ^ 31) : gin (nI k) n x = x := gin_of (vp_in_nI h hn)
def gnz {α : Type} (y : Int32) (x : Option α) : Option α := if y = 0 then none else x
theorem gnz_some {α : Type} {i : Int32} {x : Option α} {y : α} (h : gnz i x = some y) : ¬ i = 0 ∧ x = some y := by
  unfold gnz at h
  split at h
  · cases h
  · exact ⟨by assumption, h⟩
theorem gnz_of {α : Type} {i : Int32} {x : Option α} (h : ¬ i = 0) : gnz i x = x := if_neg h
def gnl {α : Type} (y : Int64) (x : Option α) : Option α := if y = 0 then none else x
theorem gnl_some {α : Type} {i : Int64} {x : Option α} {y : α} (h : gnl i x = some y) : ¬ i = 0 ∧ x = some y := by
  unfold gnl at h
  split at h
  · cases h
  · exact ⟨by assumption, h⟩
theorem gnl_of {α : Type} {i : Int64} {x : Option α} (h : ¬ i = 0) : gnl i x = x := if_neg h
def bd {α β : Type} (x : Option α) (k : α → Option β) : Option β := match x with
  | none => none
  | some a => k a
theorem bd_some {α β : Type} {x : Option α} {k : α → Option β} {y : β} (h : bd x k = some y) : ∃ a, x = some a ∧ k a = some y := by
  cases x with
  | none => cases h
  | some a => exact ⟨a, rfl, h⟩
theorem bd_of {α β : Type} {x : Option α} {k : α → Option β} {a : α} (h : x = some a) : bd x k = k a := by rw [h]; rfl
def bs {α β : Type} (x : Option (α ⊕ β)) (k : β → Option α) : Option α := match x with
  | none => none
  | some (.inl a) => some a
  | some (.inr b) => k b
theorem bs_some {α β : Type} {x : Option (α ⊕ β)} {k : β → Option α} {y : α} (h : bs x k = some y) : ∃ r, x = some r ∧ (∀ q, r = .inl q → q = y) ∧ (∀ q, r = .inr q → k q = some y) := by
  cases x with
  | none => cases h
  | some r =>
    refine ⟨r, rfl, ?_, ?_⟩
    · intro q e
      subst e
      exact Option.some.inj h
    · intro q e
      subst e
      exact h
theorem bs_l {α β : Type} {x : Option (α ⊕ β)} {k : β → Option α} {a : α} (h : x = some (.inl a)) : bs x k = some a := by rw [h]; rfl
theorem bs_r {α β : Type} {x : Option (α ⊕ β)} {k : β → Option α} {b : β} (h : x = some (.inr b)) : bs x k = k b := by rw [h]; rfl
def bt {α β γ : Type} (x : Option (α ⊕ β)) (k : β → Option (α ⊕ γ)) : Option (α ⊕ γ) := match x with
  | none => none
  | some (.inl a) => some (.inl a)
  | some (.inr b) => k b
theorem bt_some {α β γ : Type} {x : Option (α ⊕ β)} {k : β → Option (α ⊕ γ)} {y : α ⊕ γ} (h : bt x k = some y) : ∃ r, x = some r ∧ (∀ q, r = .inl q → y = .inl q) ∧ (∀ q, r = .inr q → k q = some y) := by
  cases x with
  | none => cases h
  | some r =>
    refine ⟨r, rfl, ?_, ?_⟩
    · intro q e
      subst e
      exact (Option.some.inj h).symm
    · intro q e
      subst e
      exact h
theorem bt_l {α β γ : Type} {x : Option (α ⊕ β)} {k : β → Option (α ⊕ γ)} {a : α} (h : x = some (.inl a)) : bt x k = some (.inl a) := by rw [h]; rfl
theorem bt_r {α β γ : Type} {x : Option (α ⊕ β)} {k : β → Option (α ⊕ γ)} {b : β} (h : x = some (.inr b)) : bt x k = k b := by rw [h]; rfl
def FU : Nat := 70000
/-- a table switch whose cases are 0 .. n - 1: none of them -/
theorem tb_out {x : Int32} {n : Nat} (hn : n < 2 ^ 31) (h : ∀ k, k < n → ¬ x = nI k) : x.toInt < 0 ∨ (n : Int) - 1 < x.toInt := by
  rcases pk_ix x hn with h1 | h1 | ⟨j, h1, h2⟩
  · exact Or.inl (Int32.lt_iff_toInt_lt.mp h1)
  · right
    have h2 := Int32.le_iff_toInt_le.mp h1
    rw [nI_toInt hn] at h2
    omega
  · exact absurd h2 (h j h1)
