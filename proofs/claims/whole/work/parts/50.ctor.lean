/-! CONSTRUCTORS -/
def xN (U : State) : Prop := va_AO "KindWords$Victim" U ∧ va_AO "KindWords$Convict" U ∧ va_Nw (.methodLinkNest RX2 23 yX3_init "KindWords") U ∧ va_Nw (.methodLinkNest RX2 24 yX0_init "KindWords") U ∧ va_Nw (.methodLinkNest RX5 25 yX4_init "KindWords") U ∧ va_Nw (.methodLinkNest RX5 32 yX1_init "KindWords") U
theorem xN_warm {u U : State} (hW : u.WarmedH U.vm) (h : xN u) : xN U := ⟨h.1.moved hW.alike, h.2.1.moved hW.alike, h.2.2.1.warmM hW, h.2.2.2.1.warmM hW, h.2.2.2.2.1.warmM hW, h.2.2.2.2.2.warmM hW⟩
theorem xN_same {u U : State} (h : u.vm = U.vm) (x : xN u) : xN U := ⟨x.1.moved (by rw [← h]; exact Vm.Alike.refl _), x.2.1.moved (by rw [← h]; exact Vm.Alike.refl _), x.2.2.1.same rfl h, x.2.2.2.1.same rfl h, x.2.2.2.2.1.same rfl h, x.2.2.2.2.2.same rfl h⟩
theorem K_un {D : va_G} {cl : List vw_C} {tys : List (ClassId × FieldType)} {U : State} (h : va_K D cl tys U) (i j : Nat) {a b : ClassId} {ty : FieldType} (hi : tys[i]? = some (a, ty)) (hj : tys[j]? = some (b, ty)) : a = b := by
  have h1 := (h.2 i _ hi).2
  have h2 := (h.2 j _ hj).2
  cases ty with
  | object C =>
    obtain ⟨_, _, _, _, _, e1⟩ := h1
    obtain ⟨_, _, _, _, _, e2⟩ := h2
    exact Option.some.inj (e1.symm.trans e2)
  | _ => exact Option.some.inj (h1.symm.trans h2)
theorem P_arr {D : va_G} {cl : List vw_C} {ws : va_W} {H : Heap} (hP : va_P D cl ws H) (i : Nat) {a n : Nat} {cA : ClassId} {f f' : Nat → Option Nat} (hi : ws[i]? = some (a, .inl (cA, n, .inr (.inr (.inr (.inr f)))))) (h : ∀ j, j < n → f j = f' j) : va_P D cl (ws.set i (a, .inl (cA, n, .inr (.inr (.inr (.inr f')))))) H := by
  have e : vp_cell cA (n, .inr (.inr (.inr (.inr f)))) = vp_cell cA (n, .inr (.inr (.inr (.inr f')))) := by
    show arrV cA n (fun j => va_rf (f j)) = arrV cA n (fun j => va_rf (f' j))
    unfold arrV
    congr 2
    funext j
    show va_rf (f j) = va_rf (f' j)
    rw [h j j.isLt]
  have il : i < ws.length := (List.getElem?_eq_some_iff.mp hi).1
  intro k q hk
  by_cases hki : k = i
  · subst hki
    rw [List.getElem?_set_self il] at hk
    cases hk
    have := hP k _ hi
    show H[a]? = some (vp_cell cA (n, .inr (.inr (.inr (.inr f')))))
    rw [← e]
    exact this
  · rw [List.getElem?_set_ne (Ne.symm hki)] at hk
    exact hP k q hk
theorem D_arr {A : Nat → Prop} {ws : va_W} (hD : va_D A ws) (i : Nat) {a : Nat} {e e' : va_E} (hi : ws[i]? = some (a, e)) : va_D A (ws.set i (a, e')) := by
  have il : i < ws.length := (List.getElem?_eq_some_iff.mp hi).1
  have key : ∀ (k : Nat) (q : Nat × va_E), (ws.set i (a, e'))[k]? = some q → ∃ q', ws[k]? = some q' ∧ q'.1 = q.1 := by
    intro k q hk
    by_cases hki : k = i
    · subst hki
      rw [List.getElem?_set_self il] at hk
      cases hk
      exact ⟨_, hi, rfl⟩
    · rw [List.getElem?_set_ne (Ne.symm hki)] at hk
      exact ⟨q, hk, rfl⟩
  refine ⟨fun j k p q hj hk e => ?_, fun k q hk => ?_⟩
  · obtain ⟨p', h1, h2⟩ := key j p hj
    obtain ⟨q', h3, h4⟩ := key k q hk
    exact hD.1 j k p' q' h1 h3 (by rw [h2, h4]; exact e)
  · obtain ⟨q', h3, h4⟩ := key k q hk
    rw [← h4]
    exact hD.2 k q' h3
def atX3 (D : va_G) (A : Nat → Prop) (h0 : Nat) (t : State) : Prop := va_P D vwCl [(h0, .inr (3, [.int 0, .int 0, .int 0, .int 0]))] t.heap ∧ va_K D vwCl [] t ∧ va_D A [(h0, .inr (3, [.int 0, .int 0, .int 0, .int 0]))]
set_option maxHeartbeats 4000000 in
set_option maxRecDepth 100000 in
theorem c_X3_init (l : Launch) (D : va_G) (h0 sz : Nat) : Met l yX3_init (wY yX3_init cX3_init 1 none) ({ frames := 1, cells := 0, slots := 0, locals := 12 }) (va_Pc [.ref h0] (fun U => U.heap.size = sz ∧ va_P D vwCl [(h0, .inr (3, [.int 0, .int 0, .int 0, .int 0]))] U.heap ∧ va_K D vwCl [] U ∧ va_D (fun _ => True) [(h0, .inr (3, [.int 0, .int 0, .int 0, .int 0]))] ∧ xN U)) (va_Qv (fun _ : Unit => True) (fun _ t => atX3 D (va_A [(h0, .inr (3, [.int 0, .int 0, .int 0, .int 0]))] sz) h0 t) (va_A [(h0, .inr (3, [.int 0, .int 0, .int 0, .int 0]))] sz)) 0 0 (va_A [(h0, .inr (3, [.int 0, .int 0, .int 0, .int 0]))] sz) := by
  refine Met.ofW (cc := cX3_init) (maxL := 1) (ret := none) (by decide) rfl ?_
  intro p e s m args below meth c s₁ B hml hv
  obtain ⟨rfl, hsz, hP, hK, hD0, hN⟩ := hv
  have hx := B.exec
  have hb := B.bytes
  have hr := B.returns
  have hts := atoms_spec (ws := wY yX3_init cX3_init 1 none) B.pre
  have hown : s.vm.findClass RX3 = some m.cls := findClass_of_methodNamed B.named
  have hlocks := B.notSynchronized
  have hin : meth.name = "<init>" := (name_of_methodNamed B.named B.method).1
  subst hsz
  have hD := hD0.self (sz := s.heap.size)
  generalize hAe : va_A [(h0, .inr (3, [.int 0, .int 0, .int 0, .int 0]))] s.heap.size = A at hD ⊢
  have hA : ∀ q : Nat, s.heap.size ≤ q → A q := fun q h => by rw [← hAe]; exact Or.inr h
  have hS : va_S A s.heap s.heap [] := va_S.rf
  have hP : va_P D vwCl [(h0, .inr (3, [.int 0, .int 0, .int 0, .int 0]))] s.heap := hP
  have hl := lv_entry ([.ref h0]) (n := 1) (Nat.le_of_ble_eq_true rfl)
  rw [lg_entry_eq]
  generalize (lg_sl ([.ref h0]) ++ List.replicate (1 - (lg_sl ([.ref h0])).length) Slot.unset).toArray = ls at hl ⊢
  have hl : lv_has ls 1 [(0, .ref h0)] := hl
  refine lv_aload_n hx hb dX3_init_0 rfl (lv_at hl 0 rfl) ?_
  refine W.objInit hx hb hown (hts (Cond.methodLink RX3 3 objectInit) (List.mem_cons_of_mem _ tw_1_36)) (hts (Cond.instanceMethod objectInit) (List.mem_cons_of_mem _ tw_1_20)) (hts (Cond.code objectInit object_method_1_code 1 none) (List.mem_cons_of_mem _ tw_1_21)) rfl (by rw [hml]; exact hl.1) rfl dX3_init_1 (Nat.le_of_ble_eq_true rfl) (Nat.le_of_ble_eq_true rfl) ?_
  refine W.eq (g2 := F0 m 4 ls []) rfl ?_
  exact W.vret hx hb hr (fun t ht hW => ⟨⟨(), rfl, trivial, by rw [ht]; exact hP, va_K.moved hW.alike (hK.sub (tys' := []) [] rfl), hD⟩, hS.F ht⟩) hS.2.2 dX3_init_4
def atX0 (D : va_G) (A : Nat → Prop) (h0 : Nat) (t : State) : Prop := va_P D vwCl [(h0, .inr (0, [.int 0, .int 0, .int 0, .int 0, .int 0, .int 0]))] t.heap ∧ va_K D vwCl [] t ∧ va_D A [(h0, .inr (0, [.int 0, .int 0, .int 0, .int 0, .int 0, .int 0]))]
set_option maxHeartbeats 4000000 in
set_option maxRecDepth 100000 in
theorem c_X0_init (l : Launch) (D : va_G) (h0 sz : Nat) : Met l yX0_init (wY yX0_init cX0_init 1 none) ({ frames := 1, cells := 0, slots := 0, locals := 12 }) (va_Pc [.ref h0] (fun U => U.heap.size = sz ∧ va_P D vwCl [(h0, .inr (0, [.int 0, .int 0, .int 0, .int 0, .int 0, .int 0]))] U.heap ∧ va_K D vwCl [] U ∧ va_D (fun _ => True) [(h0, .inr (0, [.int 0, .int 0, .int 0, .int 0, .int 0, .int 0]))] ∧ xN U)) (va_Qv (fun _ : Unit => True) (fun _ t => atX0 D (va_A [(h0, .inr (0, [.int 0, .int 0, .int 0, .int 0, .int 0, .int 0]))] sz) h0 t) (va_A [(h0, .inr (0, [.int 0, .int 0, .int 0, .int 0, .int 0, .int 0]))] sz)) 0 0 (va_A [(h0, .inr (0, [.int 0, .int 0, .int 0, .int 0, .int 0, .int 0]))] sz) := by
  refine Met.ofW (cc := cX0_init) (maxL := 1) (ret := none) (by decide) rfl ?_
  intro p e s m args below meth c s₁ B hml hv
  obtain ⟨rfl, hsz, hP, hK, hD0, hN⟩ := hv
  have hx := B.exec
  have hb := B.bytes
  have hr := B.returns
  have hts := atoms_spec (ws := wY yX0_init cX0_init 1 none) B.pre
  have hown : s.vm.findClass RX0 = some m.cls := findClass_of_methodNamed B.named
  have hlocks := B.notSynchronized
  have hin : meth.name = "<init>" := (name_of_methodNamed B.named B.method).1
  subst hsz
  have hD := hD0.self (sz := s.heap.size)
  generalize hAe : va_A [(h0, .inr (0, [.int 0, .int 0, .int 0, .int 0, .int 0, .int 0]))] s.heap.size = A at hD ⊢
  have hA : ∀ q : Nat, s.heap.size ≤ q → A q := fun q h => by rw [← hAe]; exact Or.inr h
  have hS : va_S A s.heap s.heap [] := va_S.rf
  have hP : va_P D vwCl [(h0, .inr (0, [.int 0, .int 0, .int 0, .int 0, .int 0, .int 0]))] s.heap := hP
  have hl := lv_entry ([.ref h0]) (n := 1) (Nat.le_of_ble_eq_true rfl)
  rw [lg_entry_eq]
  generalize (lg_sl ([.ref h0]) ++ List.replicate (1 - (lg_sl ([.ref h0])).length) Slot.unset).toArray = ls at hl ⊢
  have hl : lv_has ls 1 [(0, .ref h0)] := hl
  refine lv_aload_n hx hb dX0_init_0 rfl (lv_at hl 0 rfl) ?_
  refine W.objInit hx hb hown (hts (Cond.methodLink RX0 3 objectInit) (List.mem_cons_of_mem _ tw_1_60)) (hts (Cond.instanceMethod objectInit) (List.mem_cons_of_mem _ tw_1_20)) (hts (Cond.code objectInit object_method_1_code 1 none) (List.mem_cons_of_mem _ tw_1_21)) rfl (by rw [hml]; exact hl.1) rfl dX0_init_1 (Nat.le_of_ble_eq_true rfl) (Nat.le_of_ble_eq_true rfl) ?_
  refine W.eq (g2 := F0 m 4 ls []) rfl ?_
  exact W.vret hx hb hr (fun t ht hW => ⟨⟨(), rfl, trivial, by rw [ht]; exact hP, va_K.moved hW.alike (hK.sub (tys' := []) [] rfl), hD⟩, hS.F ht⟩) hS.2.2 dX0_init_4
def twL (q : Nat → Nat) (cv cc : ClassId) : va_W := [(q 0, .inr (2, [.ref (q 1), .ref (q 2), .int 0, .int 0, .int 0, .int 0])), (q 1, .inl (cv, 3, .inr (.inr (.inr (.inr (fun j => some (q (3 + j)))))))), (q 2, .inl (cc, 4, .inr (.inr (.inr (.inr (fun j => some (q (6 + j)))))))), (q 3, .inr (3, [.int 0, .int 0, .int 0, .int 0])), (q 4, .inr (3, [.int 0, .int 0, .int 0, .int 0])), (q 5, .inr (3, [.int 0, .int 0, .int 0, .int 0])), (q 6, .inr (0, [.int 0, .int 0, .int 0, .int 0, .int 0, .int 0])), (q 7, .inr (0, [.int 0, .int 0, .int 0, .int 0, .int 0, .int 0])), (q 8, .inr (0, [.int 0, .int 0, .int 0, .int 0, .int 0, .int 0])), (q 9, .inr (0, [.int 0, .int 0, .int 0, .int 0, .int 0, .int 0]))]
def tyT (cv cc : ClassId) : List (ClassId × FieldType) := [(cv, .object "KindWords$Victim"), (cc, .object "KindWords$Convict")]
def atX2 (D : va_G) (A : Nat → Prop) (h0 : Nat) (t : State) : Prop := ∃ (q : Nat → Nat) (cv cc : ClassId), q 0 = h0 ∧ va_P D vwCl (twL q cv cc) t.heap ∧ va_K D vwCl (tyT cv cc) t ∧ va_D A (twL q cv cc)
set_option maxHeartbeats 4000000 in
set_option maxRecDepth 100000 in
theorem c_X2_init (l : Launch) (D : va_G) (h0 sz : Nat) : Met l yX2_init (wY yX2_init cX2_init 2 none) ({ frames := 2, cells := 9, slots := 43, locals := 32 }) (va_Pc [.ref h0] (fun U => U.heap.size = sz ∧ va_P D vwCl [(h0, .inr (2, [.null, .null, .int 0, .int 0, .int 0, .int 0]))] U.heap ∧ va_K D vwCl [] U ∧ va_D (fun _ => True) [(h0, .inr (2, [.null, .null, .int 0, .int 0, .int 0, .int 0]))] ∧ xN U)) (va_Qv (fun _ : Unit => True) (fun _ t => atX2 D (va_A [(h0, .inr (2, [.null, .null, .int 0, .int 0, .int 0, .int 0]))] sz) h0 t) (va_A [(h0, .inr (2, [.null, .null, .int 0, .int 0, .int 0, .int 0]))] sz)) 9 43 (va_A [(h0, .inr (2, [.null, .null, .int 0, .int 0, .int 0, .int 0]))] sz) := by
  refine Met.ofW (cc := cX2_init) (maxL := 2) (ret := none) (by decide) rfl ?_
  intro p e s m args below meth c s₁ B hml hv
  obtain ⟨rfl, hsz, hP, hK, hD0, hN⟩ := hv
  have hx := B.exec
  have hb := B.bytes
  have hr := B.returns
  have hts := atoms_spec (ws := wY yX2_init cX2_init 2 none) B.pre
  have hown : s.vm.findClass RX2 = some m.cls := findClass_of_methodNamed B.named
  have hlocks := B.notSynchronized
  have hin : meth.name = "<init>" := (name_of_methodNamed B.named B.method).1
  subst hsz
  have hD := hD0.self (sz := s.heap.size)
  generalize hAe : va_A [(h0, .inr (2, [.null, .null, .int 0, .int 0, .int 0, .int 0]))] s.heap.size = A at hD ⊢
  have hA : ∀ q : Nat, s.heap.size ≤ q → A q := fun q h => by rw [← hAe]; exact Or.inr h
  have hS : va_S A s.heap s.heap [] := va_S.rf
  have hP : va_P D vwCl [(h0, .inr (2, [.null, .null, .int 0, .int 0, .int 0, .int 0]))] s.heap := hP
  have hl := lv_entry ([.ref h0]) (n := 2) (Nat.le_of_ble_eq_true rfl)
  rw [lg_entry_eq]
  generalize (lg_sl ([.ref h0]) ++ List.replicate (2 - (lg_sl ([.ref h0])).length) Slot.unset).toArray = ls at hl ⊢
  have hl : lv_has ls 2 [(0, .ref h0)] := hl
  refine lv_aload_n hx hb dX2_init_0 rfl (lv_at hl 0 rfl) ?_
  refine W.objInit hx hb hown (hts (Cond.methodLink RX2 3 objectInit) (List.mem_cons_of_mem _ tw_1_27)) (hts (Cond.instanceMethod objectInit) (List.mem_cons_of_mem _ tw_1_20)) (hts (Cond.code objectInit object_method_1_code 1 none) (List.mem_cons_of_mem _ tw_1_21)) rfl (by rw [hml]; exact hl.1) rfl dX2_init_1 (Nat.le_of_ble_eq_true rfl) (Nat.le_of_ble_eq_true rfl) ?_
  refine W.eq (g2 := F0 m 4 ls []) rfl ?_
  refine lv_aload_n hx hb dX2_init_4 rfl (lv_at hl 0 rfl) ?_
  refine lv_iconst (v := 3) hx hb dX2_init_5 (by decide) ?_
  refine va_newq hx hb hown (hts (Cond.classLink RX2 9 "KindWords$Victim") (List.mem_cons_of_mem _ tw_1_28)) hN.1 hK hP hD hS hA (by decide) (N' := 3) (by decide) (by decide) (Nat.le_of_ble_eq_true rfl) (Nat.le_of_ble_eq_true rfl) dX2_init_6 (fun q1 a1 H hK hP hD hS => ?_)
  have hP : va_P D vwCl [(h0, .inr (2, [.null, .null, .int 0, .int 0, .int 0, .int 0])), (q1, .inl (a1, 3, .inr (.inr (.inr (.inr (fun _ => none))))))] H := hP
  have hD : va_D A [(h0, .inr (2, [.null, .null, .int 0, .int 0, .int 0, .int 0])), (q1, .inl (a1, 3, .inr (.inr (.inr (.inr (fun _ => none))))))] := hD
  have hK : va_K D vwCl [(a1, .object "KindWords$Victim")] s := hK
  refine W.widen (k := 1) (n := 3) (by omega) (by omega) ?_
  refine va_putF (D := D) (ci := 2) (v := .ref q1) (ty := .array (.object "KindWords$Victim")) (C := RX2) (T := TX2) (N := 6) hx hb hts inWX2 tyX2 tyX2_ok nmX2 hown hK hP hD hS 0 rfl rfl 0 (by decide) (hts (Cond.fieldLink RX2 11 "KindWords$Town" "victims" "[LKindWords$Victim;") (List.mem_cons_of_mem _ tw_1_93)) (fun _ h9 => h9) rfl hin rfl (by decide +kernel) rfl rfl (Nat.le_of_ble_eq_true rfl) dX2_init_9 (fun H locs hP hD hS => ?_)
  have hP : va_P D vwCl [(h0, .inr (2, [.ref q1, .null, .int 0, .int 0, .int 0, .int 0])), (q1, .inl (a1, 3, .inr (.inr (.inr (.inr (fun _ => none))))))] H := hP
  have hD : va_D A [(h0, .inr (2, [.ref q1, .null, .int 0, .int 0, .int 0, .int 0])), (q1, .inl (a1, 3, .inr (.inr (.inr (.inr (fun _ => none))))))] := hD
  have hK : va_K D vwCl [(a1, .object "KindWords$Victim")] s := hK
  refine lv_aload_n hx hb dX2_init_12 rfl (lv_at hl 0 rfl) ?_
  refine lv_iconst (v := 4) hx hb dX2_init_13 (by decide) ?_
  refine va_newq hx hb hown (hts (Cond.classLink RX2 17 "KindWords$Convict") (List.mem_cons_of_mem _ tw_1_30)) hN.2.1 hK hP hD hS hA (by decide) (N' := 4) (by decide) (by decide) (Nat.le_of_ble_eq_true rfl) (Nat.le_of_ble_eq_true rfl) dX2_init_14 (fun q2 a2 H hK hP hD hS => ?_)
  have hP : va_P D vwCl [(h0, .inr (2, [.ref q1, .null, .int 0, .int 0, .int 0, .int 0])), (q1, .inl (a1, 3, .inr (.inr (.inr (.inr (fun _ => none)))))), (q2, .inl (a2, 4, .inr (.inr (.inr (.inr (fun _ => none))))))] H := hP
  have hD : va_D A [(h0, .inr (2, [.ref q1, .null, .int 0, .int 0, .int 0, .int 0])), (q1, .inl (a1, 3, .inr (.inr (.inr (.inr (fun _ => none)))))), (q2, .inl (a2, 4, .inr (.inr (.inr (.inr (fun _ => none))))))] := hD
  have hK : va_K D vwCl [(a1, .object "KindWords$Victim"), (a2, .object "KindWords$Convict")] s := hK
  refine W.widen (k := 2) (n := 7) (by omega) (by omega) ?_
  refine va_putF (D := D) (ci := 2) (v := .ref q2) (ty := .array (.object "KindWords$Convict")) (C := RX2) (T := TX2) (N := 6) hx hb hts inWX2 tyX2 tyX2_ok nmX2 hown hK hP hD hS 0 rfl rfl 1 (by decide) (hts (Cond.fieldLink RX2 19 "KindWords$Town" "convicts" "[LKindWords$Convict;") (List.mem_cons_of_mem _ tw_1_95)) (fun _ h9 => h9) rfl hin rfl (by decide +kernel) rfl rfl (Nat.le_of_ble_eq_true rfl) dX2_init_17 (fun H locs hP hD hS => ?_)
  have hP : va_P D vwCl [(h0, .inr (2, [.ref q1, .ref q2, .int 0, .int 0, .int 0, .int 0])), (q1, .inl (a1, 3, .inr (.inr (.inr (.inr (fun _ => none)))))), (q2, .inl (a2, 4, .inr (.inr (.inr (.inr (fun _ => none))))))] H := hP
  have hD : va_D A [(h0, .inr (2, [.ref q1, .ref q2, .int 0, .int 0, .int 0, .int 0])), (q1, .inl (a1, 3, .inr (.inr (.inr (.inr (fun _ => none)))))), (q2, .inl (a2, 4, .inr (.inr (.inr (.inr (fun _ => none))))))] := hD
  have hK : va_K D vwCl [(a1, .object "KindWords$Victim"), (a2, .object "KindWords$Convict")] s := hK
  refine lv_iconst (v := 0) hx hb dX2_init_20 (by decide) ?_
  refine lv_istore_n (lv' := [(1, .int 0), (0, .ref h0)]) hx hb dX2_init_21 rfl hl (by decide) rfl (fun ls hl => ?_)
  refine lv_iload_n hx hb dX2_init_22 rfl (lv_at hl 0 rfl) ?_
  refine lv_iconst (v := 3) hx hb dX2_init_23 (by decide) ?_
  refine lv_icmp_ge (tgt := 46) hx hb dX2_init_24 (by decide) (fun c_2 => absurd c_2 (by decide)) (fun _ => ?_)
  refine lv_aload_n hx hb dX2_init_27 rfl (lv_at hl 1 rfl) ?_
  refine va_get (D := D) (ci := 2) (v := .ref q1) (C := RX2) (T := TX2) (N := 6) hx hb hts inWX2 hown hK hP 0 rfl rfl 0 (by decide) (hts (Cond.fieldLink RX2 11 "KindWords$Town" "victims" "[LKindWords$Victim;") (List.mem_cons_of_mem _ tw_1_93)) (fun _ h9 => h9) rfl dX2_init_28 ?_
  refine lv_iload_n hx hb dX2_init_31 rfl (lv_at hl 0 rfl) ?_
  refine va_new (ci := 3) (fs := [.int 0, .int 0, .int 0, .int 0]) (C := RX3) (T := TX3) (N := 4) hx hb hts inWX3 tyX3 tyX3_ok hown (hts (Cond.classLink RX2 9 "KindWords$Victim") (List.mem_cons_of_mem _ tw_1_28)) (hts (Cond.instantiable RX3 4) (List.mem_cons_of_mem _ tw_1_32)) (hts (Cond.initialized RX3) (List.mem_cons_of_mem _ tw_1_3)) hK hP hD hS hA rfl (fun j hj => by rcases (show j = 0 ∨ j = 1 ∨ j = 2 ∨ j = 3 by omega) with rfl | rfl | rfl | rfl <;> rfl) (Nat.le_of_ble_eq_true rfl) (Nat.le_of_ble_eq_true rfl) dX2_init_32 (fun q4 H hP hD hS => ?_)
  have hP : va_P D vwCl [(h0, .inr (2, [.ref q1, .ref q2, .int 0, .int 0, .int 0, .int 0])), (q1, .inl (a1, 3, .inr (.inr (.inr (.inr (fun _ => none)))))), (q2, .inl (a2, 4, .inr (.inr (.inr (.inr (fun _ => none)))))), (q4, .inr (3, [.int 0, .int 0, .int 0, .int 0]))] H := hP
  have hD : va_D A [(h0, .inr (2, [.ref q1, .ref q2, .int 0, .int 0, .int 0, .int 0])), (q1, .inl (a1, 3, .inr (.inr (.inr (.inr (fun _ => none)))))), (q2, .inl (a2, 4, .inr (.inr (.inr (.inr (fun _ => none)))))), (q4, .inr (3, [.int 0, .int 0, .int 0, .int 0]))] := hD
  have hK : va_K D vwCl [(a1, .object "KindWords$Victim"), (a2, .object "KindWords$Convict")] s := hK
  refine W.widen (k := 3) (n := 11) (by omega) (by omega) ?_
  refine lv_dup hx hb dX2_init_35 rfl ?_
  have hPc := hP.sub (ws' := [(q4, .inr (3, [.int 0, .int 0, .int 0, .int 0]))]) [3] rfl
  have hDc := hD.sub (ws' := [(q4, .inr (3, [.int 0, .int 0, .int 0, .int 0]))]) [3] (by decide) rfl
  have hKc := hK.sub (tys' := []) [] rfl
  have hFc := va_free (wc := [(q4, .inr (3, [.int 0, .int 0, .int 0, .int 0]))]) hD hS hA [3] rfl
  refine va_callv (va_runIN (As := []) (rest := [.ref q4, .int 0, .ref q1]) ⟨hx, hb, hml, hown, hts⟩ (c_X3_init l D q4 H.size) ⟨va_cnB 0 hts (wY_good tw_1_35) rfl rfl rfl hN.2.2.1 (hts (Cond.initialized RX3) (List.mem_cons_of_mem _ tw_1_3)) ⟨by decide, by decide, by decide +kernel⟩ ⟨Nat.le_of_ble_eq_true rfl, Nat.le_of_ble_eq_true rfl⟩, rfl, (hts (Cond.instanceMethod yX3_init) (List.mem_cons_of_mem _ tw_1_34))⟩ ⟨fun a U g mk q => by obtain ⟨q0, q1, qP, qK, qD, qN⟩ := q; exact ⟨q0, q1, qP, va_K.moved (u := U) (U := U.calling g mk a) (Vm.Alike.refl U.vm) qK, qD, xN_same rfl qN⟩, fun U hU hW => ⟨rfl, by rw [hU], by rw [hU]; exact hPc, va_K.moved hW.alike hKc, hDc.weaken (fun _ _ _ _ => trivial), xN_warm hW hN⟩⟩ rfl rfl hl.1 rfl (lv_room (Nat.le_of_ble_eq_true rfl)) dX2_init_36 ⟨Nat.le_of_ble_eq_true rfl, Nat.le_of_ble_eq_true rfl⟩) hS (fun q _ h => hFc q h) hFc (fun u t H1 locs ht hvm hw hB hz1 hk1 hS => ?_)
  obtain ⟨hP1, hK1, hD1⟩ := hB
  rw [ht] at hP1
  have hK1 := va_K.moved hvm.symm hK1
  obtain ⟨hP, hD⟩ := va_join (wr := [(h0, .inr (2, [.ref q1, .ref q2, .int 0, .int 0, .int 0, .int 0])), (q1, .inl (a1, 3, .inr (.inr (.inr (.inr (fun _ => none)))))), (q2, .inl (a2, 4, .inr (.inr (.inr (.inr (fun _ => none))))))]) (w1 := [(q4, .inr (3, [.int 0, .int 0, .int 0, .int 0]))]) hP hD [3] [0, 1, 2] rfl rfl (by decide) (by decide) hk1 hFc hP1 hD1
  have hK := (hK.sub (tys' := [(a1, .object "KindWords$Victim"), (a2, .object "KindWords$Convict")]) [0, 1] rfl).app hK1
  generalize H1 = H at hP hS ⊢
  have hP : va_P D vwCl [(h0, .inr (2, [.ref q1, .ref q2, .int 0, .int 0, .int 0, .int 0])), (q1, .inl (a1, 3, .inr (.inr (.inr (.inr (fun _ => none)))))), (q2, .inl (a2, 4, .inr (.inr (.inr (.inr (fun _ => none)))))), (q4, .inr (3, [.int 0, .int 0, .int 0, .int 0]))] H := hP
  have hD : va_D A [(h0, .inr (2, [.ref q1, .ref q2, .int 0, .int 0, .int 0, .int 0])), (q1, .inl (a1, 3, .inr (.inr (.inr (.inr (fun _ => none)))))), (q2, .inl (a2, 4, .inr (.inr (.inr (.inr (fun _ => none)))))), (q4, .inr (3, [.int 0, .int 0, .int 0, .int 0]))] := hD
  have hK : va_K D vwCl [(a1, .object "KindWords$Victim"), (a2, .object "KindWords$Convict")] s := hK
  refine W.widen (k := 3) (n := 11) (by omega) (by omega) ?_
  refine va_astq hx hb hK hP hD hS 1 0 3 3 rfl rfl rfl rfl (i := 0) (show vp_in (nI 0) 3 from vp_in_nI (by decide) (by decide)) dX2_init_39 (fun H locs hP hD hS => ?_)
  have hP : va_P D vwCl [(h0, .inr (2, [.ref q1, .ref q2, .int 0, .int 0, .int 0, .int 0])), (q1, .inl (a1, 3, .inr (.inr (.inr (.inr (va_up (fun _ => none) (0 : Int32).toNatClampNeg (some q4))))))), (q2, .inl (a2, 4, .inr (.inr (.inr (.inr (fun _ => none)))))), (q4, .inr (3, [.int 0, .int 0, .int 0, .int 0]))] H := hP
  have hD : va_D A [(h0, .inr (2, [.ref q1, .ref q2, .int 0, .int 0, .int 0, .int 0])), (q1, .inl (a1, 3, .inr (.inr (.inr (.inr (va_up (fun _ => none) (0 : Int32).toNatClampNeg (some q4))))))), (q2, .inl (a2, 4, .inr (.inr (.inr (.inr (fun _ => none)))))), (q4, .inr (3, [.int 0, .int 0, .int 0, .int 0]))] := hD
  have hK : va_K D vwCl [(a1, .object "KindWords$Victim"), (a2, .object "KindWords$Convict")] s := hK
  refine lv_iinc (v := 1) (lv' := [(1, .int 1), (0, .ref h0)]) hx hb dX2_init_40 hl (k := 0) rfl (by decide) (by decide) rfl (fun ls hl => ?_)
  refine lv_goto (tgt := 22) hx hb dX2_init_43 (by decide) ?_
  refine lv_iload_n hx hb dX2_init_22 rfl (lv_at hl 0 rfl) ?_
  refine lv_iconst (v := 3) hx hb dX2_init_23 (by decide) ?_
  refine lv_icmp_ge (tgt := 46) hx hb dX2_init_24 (by decide) (fun c_5 => absurd c_5 (by decide)) (fun _ => ?_)
  refine lv_aload_n hx hb dX2_init_27 rfl (lv_at hl 1 rfl) ?_
  refine va_get (D := D) (ci := 2) (v := .ref q1) (C := RX2) (T := TX2) (N := 6) hx hb hts inWX2 hown hK hP 0 rfl rfl 0 (by decide) (hts (Cond.fieldLink RX2 11 "KindWords$Town" "victims" "[LKindWords$Victim;") (List.mem_cons_of_mem _ tw_1_93)) (fun _ h9 => h9) rfl dX2_init_28 ?_
  refine lv_iload_n hx hb dX2_init_31 rfl (lv_at hl 0 rfl) ?_
  refine va_new (ci := 3) (fs := [.int 0, .int 0, .int 0, .int 0]) (C := RX3) (T := TX3) (N := 4) hx hb hts inWX3 tyX3 tyX3_ok hown (hts (Cond.classLink RX2 9 "KindWords$Victim") (List.mem_cons_of_mem _ tw_1_28)) (hts (Cond.instantiable RX3 4) (List.mem_cons_of_mem _ tw_1_32)) (hts (Cond.initialized RX3) (List.mem_cons_of_mem _ tw_1_3)) hK hP hD hS hA rfl (fun j hj => by rcases (show j = 0 ∨ j = 1 ∨ j = 2 ∨ j = 3 by omega) with rfl | rfl | rfl | rfl <;> rfl) (Nat.le_of_ble_eq_true rfl) (Nat.le_of_ble_eq_true rfl) dX2_init_32 (fun q7 H hP hD hS => ?_)
  have hP : va_P D vwCl [(h0, .inr (2, [.ref q1, .ref q2, .int 0, .int 0, .int 0, .int 0])), (q1, .inl (a1, 3, .inr (.inr (.inr (.inr (va_up (fun _ => none) (0 : Int32).toNatClampNeg (some q4))))))), (q2, .inl (a2, 4, .inr (.inr (.inr (.inr (fun _ => none)))))), (q4, .inr (3, [.int 0, .int 0, .int 0, .int 0])), (q7, .inr (3, [.int 0, .int 0, .int 0, .int 0]))] H := hP
  have hD : va_D A [(h0, .inr (2, [.ref q1, .ref q2, .int 0, .int 0, .int 0, .int 0])), (q1, .inl (a1, 3, .inr (.inr (.inr (.inr (va_up (fun _ => none) (0 : Int32).toNatClampNeg (some q4))))))), (q2, .inl (a2, 4, .inr (.inr (.inr (.inr (fun _ => none)))))), (q4, .inr (3, [.int 0, .int 0, .int 0, .int 0])), (q7, .inr (3, [.int 0, .int 0, .int 0, .int 0]))] := hD
  have hK : va_K D vwCl [(a1, .object "KindWords$Victim"), (a2, .object "KindWords$Convict")] s := hK
  refine W.widen (k := 4) (n := 15) (by omega) (by omega) ?_
  refine lv_dup hx hb dX2_init_35 rfl ?_
  have hPc := hP.sub (ws' := [(q7, .inr (3, [.int 0, .int 0, .int 0, .int 0]))]) [4] rfl
  have hDc := hD.sub (ws' := [(q7, .inr (3, [.int 0, .int 0, .int 0, .int 0]))]) [4] (by decide) rfl
  have hKc := hK.sub (tys' := []) [] rfl
  have hFc := va_free (wc := [(q7, .inr (3, [.int 0, .int 0, .int 0, .int 0]))]) hD hS hA [4] rfl
  refine va_callv (va_runIN (As := []) (rest := [.ref q7, .int 1, .ref q1]) ⟨hx, hb, hml, hown, hts⟩ (c_X3_init l D q7 H.size) ⟨va_cnB 0 hts (wY_good tw_1_35) rfl rfl rfl hN.2.2.1 (hts (Cond.initialized RX3) (List.mem_cons_of_mem _ tw_1_3)) ⟨by decide, by decide, by decide +kernel⟩ ⟨Nat.le_of_ble_eq_true rfl, Nat.le_of_ble_eq_true rfl⟩, rfl, (hts (Cond.instanceMethod yX3_init) (List.mem_cons_of_mem _ tw_1_34))⟩ ⟨fun a U g mk q => by obtain ⟨q0, q1, qP, qK, qD, qN⟩ := q; exact ⟨q0, q1, qP, va_K.moved (u := U) (U := U.calling g mk a) (Vm.Alike.refl U.vm) qK, qD, xN_same rfl qN⟩, fun U hU hW => ⟨rfl, by rw [hU], by rw [hU]; exact hPc, va_K.moved hW.alike hKc, hDc.weaken (fun _ _ _ _ => trivial), xN_warm hW hN⟩⟩ rfl rfl hl.1 rfl (lv_room (Nat.le_of_ble_eq_true rfl)) dX2_init_36 ⟨Nat.le_of_ble_eq_true rfl, Nat.le_of_ble_eq_true rfl⟩) hS (fun q _ h => hFc q h) hFc (fun u t H1 locs ht hvm hw hB hz1 hk1 hS => ?_)
  obtain ⟨hP1, hK1, hD1⟩ := hB
  rw [ht] at hP1
  have hK1 := va_K.moved hvm.symm hK1
  obtain ⟨hP, hD⟩ := va_join (wr := [(h0, .inr (2, [.ref q1, .ref q2, .int 0, .int 0, .int 0, .int 0])), (q1, .inl (a1, 3, .inr (.inr (.inr (.inr (va_up (fun _ => none) (0 : Int32).toNatClampNeg (some q4))))))), (q2, .inl (a2, 4, .inr (.inr (.inr (.inr (fun _ => none)))))), (q4, .inr (3, [.int 0, .int 0, .int 0, .int 0]))]) (w1 := [(q7, .inr (3, [.int 0, .int 0, .int 0, .int 0]))]) hP hD [4] [0, 1, 2, 3] rfl rfl (by decide) (by decide) hk1 hFc hP1 hD1
  have hK := (hK.sub (tys' := [(a1, .object "KindWords$Victim"), (a2, .object "KindWords$Convict")]) [0, 1] rfl).app hK1
  generalize H1 = H at hP hS ⊢
  have hP : va_P D vwCl [(h0, .inr (2, [.ref q1, .ref q2, .int 0, .int 0, .int 0, .int 0])), (q1, .inl (a1, 3, .inr (.inr (.inr (.inr (va_up (fun _ => none) (0 : Int32).toNatClampNeg (some q4))))))), (q2, .inl (a2, 4, .inr (.inr (.inr (.inr (fun _ => none)))))), (q4, .inr (3, [.int 0, .int 0, .int 0, .int 0])), (q7, .inr (3, [.int 0, .int 0, .int 0, .int 0]))] H := hP
  have hD : va_D A [(h0, .inr (2, [.ref q1, .ref q2, .int 0, .int 0, .int 0, .int 0])), (q1, .inl (a1, 3, .inr (.inr (.inr (.inr (va_up (fun _ => none) (0 : Int32).toNatClampNeg (some q4))))))), (q2, .inl (a2, 4, .inr (.inr (.inr (.inr (fun _ => none)))))), (q4, .inr (3, [.int 0, .int 0, .int 0, .int 0])), (q7, .inr (3, [.int 0, .int 0, .int 0, .int 0]))] := hD
  have hK : va_K D vwCl [(a1, .object "KindWords$Victim"), (a2, .object "KindWords$Convict")] s := hK
  refine W.widen (k := 4) (n := 15) (by omega) (by omega) ?_
  refine va_astq hx hb hK hP hD hS 1 0 4 3 rfl rfl rfl rfl (i := 1) (show vp_in (nI 1) 3 from vp_in_nI (by decide) (by decide)) dX2_init_39 (fun H locs hP hD hS => ?_)
  have hP : va_P D vwCl [(h0, .inr (2, [.ref q1, .ref q2, .int 0, .int 0, .int 0, .int 0])), (q1, .inl (a1, 3, .inr (.inr (.inr (.inr (va_up (va_up (fun _ => none) (0 : Int32).toNatClampNeg (some q4)) (1 : Int32).toNatClampNeg (some q7))))))), (q2, .inl (a2, 4, .inr (.inr (.inr (.inr (fun _ => none)))))), (q4, .inr (3, [.int 0, .int 0, .int 0, .int 0])), (q7, .inr (3, [.int 0, .int 0, .int 0, .int 0]))] H := hP
  have hD : va_D A [(h0, .inr (2, [.ref q1, .ref q2, .int 0, .int 0, .int 0, .int 0])), (q1, .inl (a1, 3, .inr (.inr (.inr (.inr (va_up (va_up (fun _ => none) (0 : Int32).toNatClampNeg (some q4)) (1 : Int32).toNatClampNeg (some q7))))))), (q2, .inl (a2, 4, .inr (.inr (.inr (.inr (fun _ => none)))))), (q4, .inr (3, [.int 0, .int 0, .int 0, .int 0])), (q7, .inr (3, [.int 0, .int 0, .int 0, .int 0]))] := hD
  have hK : va_K D vwCl [(a1, .object "KindWords$Victim"), (a2, .object "KindWords$Convict")] s := hK
  refine lv_iinc (v := 2) (lv' := [(1, .int 2), (0, .ref h0)]) hx hb dX2_init_40 hl (k := 0) rfl (by decide) (by decide) rfl (fun ls hl => ?_)
  refine lv_goto (tgt := 22) hx hb dX2_init_43 (by decide) ?_
  refine lv_iload_n hx hb dX2_init_22 rfl (lv_at hl 0 rfl) ?_
  refine lv_iconst (v := 3) hx hb dX2_init_23 (by decide) ?_
  refine lv_icmp_ge (tgt := 46) hx hb dX2_init_24 (by decide) (fun c_8 => absurd c_8 (by decide)) (fun _ => ?_)
  refine lv_aload_n hx hb dX2_init_27 rfl (lv_at hl 1 rfl) ?_
  refine va_get (D := D) (ci := 2) (v := .ref q1) (C := RX2) (T := TX2) (N := 6) hx hb hts inWX2 hown hK hP 0 rfl rfl 0 (by decide) (hts (Cond.fieldLink RX2 11 "KindWords$Town" "victims" "[LKindWords$Victim;") (List.mem_cons_of_mem _ tw_1_93)) (fun _ h9 => h9) rfl dX2_init_28 ?_
  refine lv_iload_n hx hb dX2_init_31 rfl (lv_at hl 0 rfl) ?_
  refine va_new (ci := 3) (fs := [.int 0, .int 0, .int 0, .int 0]) (C := RX3) (T := TX3) (N := 4) hx hb hts inWX3 tyX3 tyX3_ok hown (hts (Cond.classLink RX2 9 "KindWords$Victim") (List.mem_cons_of_mem _ tw_1_28)) (hts (Cond.instantiable RX3 4) (List.mem_cons_of_mem _ tw_1_32)) (hts (Cond.initialized RX3) (List.mem_cons_of_mem _ tw_1_3)) hK hP hD hS hA rfl (fun j hj => by rcases (show j = 0 ∨ j = 1 ∨ j = 2 ∨ j = 3 by omega) with rfl | rfl | rfl | rfl <;> rfl) (Nat.le_of_ble_eq_true rfl) (Nat.le_of_ble_eq_true rfl) dX2_init_32 (fun q10 H hP hD hS => ?_)
  have hP : va_P D vwCl [(h0, .inr (2, [.ref q1, .ref q2, .int 0, .int 0, .int 0, .int 0])), (q1, .inl (a1, 3, .inr (.inr (.inr (.inr (va_up (va_up (fun _ => none) (0 : Int32).toNatClampNeg (some q4)) (1 : Int32).toNatClampNeg (some q7))))))), (q2, .inl (a2, 4, .inr (.inr (.inr (.inr (fun _ => none)))))), (q4, .inr (3, [.int 0, .int 0, .int 0, .int 0])), (q7, .inr (3, [.int 0, .int 0, .int 0, .int 0])), (q10, .inr (3, [.int 0, .int 0, .int 0, .int 0]))] H := hP
  have hD : va_D A [(h0, .inr (2, [.ref q1, .ref q2, .int 0, .int 0, .int 0, .int 0])), (q1, .inl (a1, 3, .inr (.inr (.inr (.inr (va_up (va_up (fun _ => none) (0 : Int32).toNatClampNeg (some q4)) (1 : Int32).toNatClampNeg (some q7))))))), (q2, .inl (a2, 4, .inr (.inr (.inr (.inr (fun _ => none)))))), (q4, .inr (3, [.int 0, .int 0, .int 0, .int 0])), (q7, .inr (3, [.int 0, .int 0, .int 0, .int 0])), (q10, .inr (3, [.int 0, .int 0, .int 0, .int 0]))] := hD
  have hK : va_K D vwCl [(a1, .object "KindWords$Victim"), (a2, .object "KindWords$Convict")] s := hK
  refine W.widen (k := 5) (n := 19) (by omega) (by omega) ?_
  refine lv_dup hx hb dX2_init_35 rfl ?_
  have hPc := hP.sub (ws' := [(q10, .inr (3, [.int 0, .int 0, .int 0, .int 0]))]) [5] rfl
  have hDc := hD.sub (ws' := [(q10, .inr (3, [.int 0, .int 0, .int 0, .int 0]))]) [5] (by decide) rfl
  have hKc := hK.sub (tys' := []) [] rfl
  have hFc := va_free (wc := [(q10, .inr (3, [.int 0, .int 0, .int 0, .int 0]))]) hD hS hA [5] rfl
  refine va_callv (va_runIN (As := []) (rest := [.ref q10, .int 2, .ref q1]) ⟨hx, hb, hml, hown, hts⟩ (c_X3_init l D q10 H.size) ⟨va_cnB 0 hts (wY_good tw_1_35) rfl rfl rfl hN.2.2.1 (hts (Cond.initialized RX3) (List.mem_cons_of_mem _ tw_1_3)) ⟨by decide, by decide, by decide +kernel⟩ ⟨Nat.le_of_ble_eq_true rfl, Nat.le_of_ble_eq_true rfl⟩, rfl, (hts (Cond.instanceMethod yX3_init) (List.mem_cons_of_mem _ tw_1_34))⟩ ⟨fun a U g mk q => by obtain ⟨q0, q1, qP, qK, qD, qN⟩ := q; exact ⟨q0, q1, qP, va_K.moved (u := U) (U := U.calling g mk a) (Vm.Alike.refl U.vm) qK, qD, xN_same rfl qN⟩, fun U hU hW => ⟨rfl, by rw [hU], by rw [hU]; exact hPc, va_K.moved hW.alike hKc, hDc.weaken (fun _ _ _ _ => trivial), xN_warm hW hN⟩⟩ rfl rfl hl.1 rfl (lv_room (Nat.le_of_ble_eq_true rfl)) dX2_init_36 ⟨Nat.le_of_ble_eq_true rfl, Nat.le_of_ble_eq_true rfl⟩) hS (fun q _ h => hFc q h) hFc (fun u t H1 locs ht hvm hw hB hz1 hk1 hS => ?_)
  obtain ⟨hP1, hK1, hD1⟩ := hB
  rw [ht] at hP1
  have hK1 := va_K.moved hvm.symm hK1
  obtain ⟨hP, hD⟩ := va_join (wr := [(h0, .inr (2, [.ref q1, .ref q2, .int 0, .int 0, .int 0, .int 0])), (q1, .inl (a1, 3, .inr (.inr (.inr (.inr (va_up (va_up (fun _ => none) (0 : Int32).toNatClampNeg (some q4)) (1 : Int32).toNatClampNeg (some q7))))))), (q2, .inl (a2, 4, .inr (.inr (.inr (.inr (fun _ => none)))))), (q4, .inr (3, [.int 0, .int 0, .int 0, .int 0])), (q7, .inr (3, [.int 0, .int 0, .int 0, .int 0]))]) (w1 := [(q10, .inr (3, [.int 0, .int 0, .int 0, .int 0]))]) hP hD [5] [0, 1, 2, 3, 4] rfl rfl (by decide) (by decide) hk1 hFc hP1 hD1
  have hK := (hK.sub (tys' := [(a1, .object "KindWords$Victim"), (a2, .object "KindWords$Convict")]) [0, 1] rfl).app hK1
  generalize H1 = H at hP hS ⊢
  have hP : va_P D vwCl [(h0, .inr (2, [.ref q1, .ref q2, .int 0, .int 0, .int 0, .int 0])), (q1, .inl (a1, 3, .inr (.inr (.inr (.inr (va_up (va_up (fun _ => none) (0 : Int32).toNatClampNeg (some q4)) (1 : Int32).toNatClampNeg (some q7))))))), (q2, .inl (a2, 4, .inr (.inr (.inr (.inr (fun _ => none)))))), (q4, .inr (3, [.int 0, .int 0, .int 0, .int 0])), (q7, .inr (3, [.int 0, .int 0, .int 0, .int 0])), (q10, .inr (3, [.int 0, .int 0, .int 0, .int 0]))] H := hP
  have hD : va_D A [(h0, .inr (2, [.ref q1, .ref q2, .int 0, .int 0, .int 0, .int 0])), (q1, .inl (a1, 3, .inr (.inr (.inr (.inr (va_up (va_up (fun _ => none) (0 : Int32).toNatClampNeg (some q4)) (1 : Int32).toNatClampNeg (some q7))))))), (q2, .inl (a2, 4, .inr (.inr (.inr (.inr (fun _ => none)))))), (q4, .inr (3, [.int 0, .int 0, .int 0, .int 0])), (q7, .inr (3, [.int 0, .int 0, .int 0, .int 0])), (q10, .inr (3, [.int 0, .int 0, .int 0, .int 0]))] := hD
  have hK : va_K D vwCl [(a1, .object "KindWords$Victim"), (a2, .object "KindWords$Convict")] s := hK
  refine W.widen (k := 5) (n := 19) (by omega) (by omega) ?_
  refine va_astq hx hb hK hP hD hS 1 0 5 3 rfl rfl rfl rfl (i := 2) (show vp_in (nI 2) 3 from vp_in_nI (by decide) (by decide)) dX2_init_39 (fun H locs hP hD hS => ?_)
  have hP : va_P D vwCl [(h0, .inr (2, [.ref q1, .ref q2, .int 0, .int 0, .int 0, .int 0])), (q1, .inl (a1, 3, .inr (.inr (.inr (.inr (va_up (va_up (va_up (fun _ => none) (0 : Int32).toNatClampNeg (some q4)) (1 : Int32).toNatClampNeg (some q7)) (2 : Int32).toNatClampNeg (some q10))))))), (q2, .inl (a2, 4, .inr (.inr (.inr (.inr (fun _ => none)))))), (q4, .inr (3, [.int 0, .int 0, .int 0, .int 0])), (q7, .inr (3, [.int 0, .int 0, .int 0, .int 0])), (q10, .inr (3, [.int 0, .int 0, .int 0, .int 0]))] H := hP
  have hD : va_D A [(h0, .inr (2, [.ref q1, .ref q2, .int 0, .int 0, .int 0, .int 0])), (q1, .inl (a1, 3, .inr (.inr (.inr (.inr (va_up (va_up (va_up (fun _ => none) (0 : Int32).toNatClampNeg (some q4)) (1 : Int32).toNatClampNeg (some q7)) (2 : Int32).toNatClampNeg (some q10))))))), (q2, .inl (a2, 4, .inr (.inr (.inr (.inr (fun _ => none)))))), (q4, .inr (3, [.int 0, .int 0, .int 0, .int 0])), (q7, .inr (3, [.int 0, .int 0, .int 0, .int 0])), (q10, .inr (3, [.int 0, .int 0, .int 0, .int 0]))] := hD
  have hK : va_K D vwCl [(a1, .object "KindWords$Victim"), (a2, .object "KindWords$Convict")] s := hK
  refine lv_iinc (v := 3) (lv' := [(1, .int 3), (0, .ref h0)]) hx hb dX2_init_40 hl (k := 0) rfl (by decide) (by decide) rfl (fun ls hl => ?_)
  refine lv_goto (tgt := 22) hx hb dX2_init_43 (by decide) ?_
  refine lv_iload_n hx hb dX2_init_22 rfl (lv_at hl 0 rfl) ?_
  refine lv_iconst (v := 3) hx hb dX2_init_23 (by decide) ?_
  refine lv_icmp_ge (tgt := 46) hx hb dX2_init_24 (by decide) (fun _ => ?_) (fun c_11 => absurd (by decide) c_11)
  refine lv_iconst (v := 0) hx hb dX2_init_46 (by decide) ?_
  refine lv_istore_n (lv' := [(1, .int 0), (0, .ref h0)]) hx hb dX2_init_47 rfl hl (by decide) rfl (fun ls hl => ?_)
  refine lv_iload_n hx hb dX2_init_48 rfl (lv_at hl 0 rfl) ?_
  refine lv_iconst (v := 4) hx hb dX2_init_49 (by decide) ?_
  refine lv_icmp_ge (tgt := 72) hx hb dX2_init_50 (by decide) (fun c_12 => absurd c_12 (by decide)) (fun _ => ?_)
  refine lv_aload_n hx hb dX2_init_53 rfl (lv_at hl 1 rfl) ?_
  refine va_get (D := D) (ci := 2) (v := .ref q2) (C := RX2) (T := TX2) (N := 6) hx hb hts inWX2 hown hK hP 0 rfl rfl 1 (by decide) (hts (Cond.fieldLink RX2 19 "KindWords$Town" "convicts" "[LKindWords$Convict;") (List.mem_cons_of_mem _ tw_1_95)) (fun _ h9 => h9) rfl dX2_init_54 ?_
  refine lv_iload_n hx hb dX2_init_57 rfl (lv_at hl 0 rfl) ?_
  refine va_new (ci := 0) (fs := [.int 0, .int 0, .int 0, .int 0, .int 0, .int 0]) (C := RX0) (T := TX0) (N := 6) hx hb hts inWX0 tyX0 tyX0_ok hown (hts (Cond.classLink RX2 17 "KindWords$Convict") (List.mem_cons_of_mem _ tw_1_30)) (hts (Cond.instantiable RX0 6) (List.mem_cons_of_mem _ tw_1_56)) (hts (Cond.initialized RX0) (List.mem_cons_of_mem _ tw_1_4)) hK hP hD hS hA rfl (fun j hj => by rcases (show j = 0 ∨ j = 1 ∨ j = 2 ∨ j = 3 ∨ j = 4 ∨ j = 5 by omega) with rfl | rfl | rfl | rfl | rfl | rfl <;> rfl) (Nat.le_of_ble_eq_true rfl) (Nat.le_of_ble_eq_true rfl) dX2_init_58 (fun q14 H hP hD hS => ?_)
  have hP : va_P D vwCl [(h0, .inr (2, [.ref q1, .ref q2, .int 0, .int 0, .int 0, .int 0])), (q1, .inl (a1, 3, .inr (.inr (.inr (.inr (va_up (va_up (va_up (fun _ => none) (0 : Int32).toNatClampNeg (some q4)) (1 : Int32).toNatClampNeg (some q7)) (2 : Int32).toNatClampNeg (some q10))))))), (q2, .inl (a2, 4, .inr (.inr (.inr (.inr (fun _ => none)))))), (q4, .inr (3, [.int 0, .int 0, .int 0, .int 0])), (q7, .inr (3, [.int 0, .int 0, .int 0, .int 0])), (q10, .inr (3, [.int 0, .int 0, .int 0, .int 0])), (q14, .inr (0, [.int 0, .int 0, .int 0, .int 0, .int 0, .int 0]))] H := hP
  have hD : va_D A [(h0, .inr (2, [.ref q1, .ref q2, .int 0, .int 0, .int 0, .int 0])), (q1, .inl (a1, 3, .inr (.inr (.inr (.inr (va_up (va_up (va_up (fun _ => none) (0 : Int32).toNatClampNeg (some q4)) (1 : Int32).toNatClampNeg (some q7)) (2 : Int32).toNatClampNeg (some q10))))))), (q2, .inl (a2, 4, .inr (.inr (.inr (.inr (fun _ => none)))))), (q4, .inr (3, [.int 0, .int 0, .int 0, .int 0])), (q7, .inr (3, [.int 0, .int 0, .int 0, .int 0])), (q10, .inr (3, [.int 0, .int 0, .int 0, .int 0])), (q14, .inr (0, [.int 0, .int 0, .int 0, .int 0, .int 0, .int 0]))] := hD
  have hK : va_K D vwCl [(a1, .object "KindWords$Victim"), (a2, .object "KindWords$Convict")] s := hK
  refine W.widen (k := 6) (n := 25) (by omega) (by omega) ?_
  refine lv_dup hx hb dX2_init_61 rfl ?_
  have hPc := hP.sub (ws' := [(q14, .inr (0, [.int 0, .int 0, .int 0, .int 0, .int 0, .int 0]))]) [6] rfl
  have hDc := hD.sub (ws' := [(q14, .inr (0, [.int 0, .int 0, .int 0, .int 0, .int 0, .int 0]))]) [6] (by decide) rfl
  have hKc := hK.sub (tys' := []) [] rfl
  have hFc := va_free (wc := [(q14, .inr (0, [.int 0, .int 0, .int 0, .int 0, .int 0, .int 0]))]) hD hS hA [6] rfl
  refine va_callv (va_runIN (As := []) (rest := [.ref q14, .int 0, .ref q2]) ⟨hx, hb, hml, hown, hts⟩ (c_X0_init l D q14 H.size) ⟨va_cnB 0 hts (wY_good tw_1_59) rfl rfl rfl hN.2.2.2.1 (hts (Cond.initialized RX0) (List.mem_cons_of_mem _ tw_1_4)) ⟨by decide, by decide, by decide +kernel⟩ ⟨Nat.le_of_ble_eq_true rfl, Nat.le_of_ble_eq_true rfl⟩, rfl, (hts (Cond.instanceMethod yX0_init) (List.mem_cons_of_mem _ tw_1_58))⟩ ⟨fun a U g mk q => by obtain ⟨q0, q1, qP, qK, qD, qN⟩ := q; exact ⟨q0, q1, qP, va_K.moved (u := U) (U := U.calling g mk a) (Vm.Alike.refl U.vm) qK, qD, xN_same rfl qN⟩, fun U hU hW => ⟨rfl, by rw [hU], by rw [hU]; exact hPc, va_K.moved hW.alike hKc, hDc.weaken (fun _ _ _ _ => trivial), xN_warm hW hN⟩⟩ rfl rfl hl.1 rfl (lv_room (Nat.le_of_ble_eq_true rfl)) dX2_init_62 ⟨Nat.le_of_ble_eq_true rfl, Nat.le_of_ble_eq_true rfl⟩) hS (fun q _ h => hFc q h) hFc (fun u t H1 locs ht hvm hw hB hz1 hk1 hS => ?_)
  obtain ⟨hP1, hK1, hD1⟩ := hB
  rw [ht] at hP1
  have hK1 := va_K.moved hvm.symm hK1
  obtain ⟨hP, hD⟩ := va_join (wr := [(h0, .inr (2, [.ref q1, .ref q2, .int 0, .int 0, .int 0, .int 0])), (q1, .inl (a1, 3, .inr (.inr (.inr (.inr (va_up (va_up (va_up (fun _ => none) (0 : Int32).toNatClampNeg (some q4)) (1 : Int32).toNatClampNeg (some q7)) (2 : Int32).toNatClampNeg (some q10))))))), (q2, .inl (a2, 4, .inr (.inr (.inr (.inr (fun _ => none)))))), (q4, .inr (3, [.int 0, .int 0, .int 0, .int 0])), (q7, .inr (3, [.int 0, .int 0, .int 0, .int 0])), (q10, .inr (3, [.int 0, .int 0, .int 0, .int 0]))]) (w1 := [(q14, .inr (0, [.int 0, .int 0, .int 0, .int 0, .int 0, .int 0]))]) hP hD [6] [0, 1, 2, 3, 4, 5] rfl rfl (by decide) (by decide) hk1 hFc hP1 hD1
  have hK := (hK.sub (tys' := [(a1, .object "KindWords$Victim"), (a2, .object "KindWords$Convict")]) [0, 1] rfl).app hK1
  generalize H1 = H at hP hS ⊢
  have hP : va_P D vwCl [(h0, .inr (2, [.ref q1, .ref q2, .int 0, .int 0, .int 0, .int 0])), (q1, .inl (a1, 3, .inr (.inr (.inr (.inr (va_up (va_up (va_up (fun _ => none) (0 : Int32).toNatClampNeg (some q4)) (1 : Int32).toNatClampNeg (some q7)) (2 : Int32).toNatClampNeg (some q10))))))), (q2, .inl (a2, 4, .inr (.inr (.inr (.inr (fun _ => none)))))), (q4, .inr (3, [.int 0, .int 0, .int 0, .int 0])), (q7, .inr (3, [.int 0, .int 0, .int 0, .int 0])), (q10, .inr (3, [.int 0, .int 0, .int 0, .int 0])), (q14, .inr (0, [.int 0, .int 0, .int 0, .int 0, .int 0, .int 0]))] H := hP
  have hD : va_D A [(h0, .inr (2, [.ref q1, .ref q2, .int 0, .int 0, .int 0, .int 0])), (q1, .inl (a1, 3, .inr (.inr (.inr (.inr (va_up (va_up (va_up (fun _ => none) (0 : Int32).toNatClampNeg (some q4)) (1 : Int32).toNatClampNeg (some q7)) (2 : Int32).toNatClampNeg (some q10))))))), (q2, .inl (a2, 4, .inr (.inr (.inr (.inr (fun _ => none)))))), (q4, .inr (3, [.int 0, .int 0, .int 0, .int 0])), (q7, .inr (3, [.int 0, .int 0, .int 0, .int 0])), (q10, .inr (3, [.int 0, .int 0, .int 0, .int 0])), (q14, .inr (0, [.int 0, .int 0, .int 0, .int 0, .int 0, .int 0]))] := hD
  have hK : va_K D vwCl [(a1, .object "KindWords$Victim"), (a2, .object "KindWords$Convict")] s := hK
  refine W.widen (k := 6) (n := 25) (by omega) (by omega) ?_
  refine va_astq hx hb hK hP hD hS 2 1 6 0 rfl rfl rfl rfl (i := 0) (show vp_in (nI 0) 4 from vp_in_nI (by decide) (by decide)) dX2_init_65 (fun H locs hP hD hS => ?_)
  have hP : va_P D vwCl [(h0, .inr (2, [.ref q1, .ref q2, .int 0, .int 0, .int 0, .int 0])), (q1, .inl (a1, 3, .inr (.inr (.inr (.inr (va_up (va_up (va_up (fun _ => none) (0 : Int32).toNatClampNeg (some q4)) (1 : Int32).toNatClampNeg (some q7)) (2 : Int32).toNatClampNeg (some q10))))))), (q2, .inl (a2, 4, .inr (.inr (.inr (.inr (va_up (fun _ => none) (0 : Int32).toNatClampNeg (some q14))))))), (q4, .inr (3, [.int 0, .int 0, .int 0, .int 0])), (q7, .inr (3, [.int 0, .int 0, .int 0, .int 0])), (q10, .inr (3, [.int 0, .int 0, .int 0, .int 0])), (q14, .inr (0, [.int 0, .int 0, .int 0, .int 0, .int 0, .int 0]))] H := hP
  have hD : va_D A [(h0, .inr (2, [.ref q1, .ref q2, .int 0, .int 0, .int 0, .int 0])), (q1, .inl (a1, 3, .inr (.inr (.inr (.inr (va_up (va_up (va_up (fun _ => none) (0 : Int32).toNatClampNeg (some q4)) (1 : Int32).toNatClampNeg (some q7)) (2 : Int32).toNatClampNeg (some q10))))))), (q2, .inl (a2, 4, .inr (.inr (.inr (.inr (va_up (fun _ => none) (0 : Int32).toNatClampNeg (some q14))))))), (q4, .inr (3, [.int 0, .int 0, .int 0, .int 0])), (q7, .inr (3, [.int 0, .int 0, .int 0, .int 0])), (q10, .inr (3, [.int 0, .int 0, .int 0, .int 0])), (q14, .inr (0, [.int 0, .int 0, .int 0, .int 0, .int 0, .int 0]))] := hD
  have hK : va_K D vwCl [(a1, .object "KindWords$Victim"), (a2, .object "KindWords$Convict")] s := hK
  refine lv_iinc (v := 1) (lv' := [(1, .int 1), (0, .ref h0)]) hx hb dX2_init_66 hl (k := 0) rfl (by decide) (by decide) rfl (fun ls hl => ?_)
  refine lv_goto (tgt := 48) hx hb dX2_init_69 (by decide) ?_
  refine lv_iload_n hx hb dX2_init_48 rfl (lv_at hl 0 rfl) ?_
  refine lv_iconst (v := 4) hx hb dX2_init_49 (by decide) ?_
  refine lv_icmp_ge (tgt := 72) hx hb dX2_init_50 (by decide) (fun c_15 => absurd c_15 (by decide)) (fun _ => ?_)
  refine lv_aload_n hx hb dX2_init_53 rfl (lv_at hl 1 rfl) ?_
  refine va_get (D := D) (ci := 2) (v := .ref q2) (C := RX2) (T := TX2) (N := 6) hx hb hts inWX2 hown hK hP 0 rfl rfl 1 (by decide) (hts (Cond.fieldLink RX2 19 "KindWords$Town" "convicts" "[LKindWords$Convict;") (List.mem_cons_of_mem _ tw_1_95)) (fun _ h9 => h9) rfl dX2_init_54 ?_
  refine lv_iload_n hx hb dX2_init_57 rfl (lv_at hl 0 rfl) ?_
  refine va_new (ci := 0) (fs := [.int 0, .int 0, .int 0, .int 0, .int 0, .int 0]) (C := RX0) (T := TX0) (N := 6) hx hb hts inWX0 tyX0 tyX0_ok hown (hts (Cond.classLink RX2 17 "KindWords$Convict") (List.mem_cons_of_mem _ tw_1_30)) (hts (Cond.instantiable RX0 6) (List.mem_cons_of_mem _ tw_1_56)) (hts (Cond.initialized RX0) (List.mem_cons_of_mem _ tw_1_4)) hK hP hD hS hA rfl (fun j hj => by rcases (show j = 0 ∨ j = 1 ∨ j = 2 ∨ j = 3 ∨ j = 4 ∨ j = 5 by omega) with rfl | rfl | rfl | rfl | rfl | rfl <;> rfl) (Nat.le_of_ble_eq_true rfl) (Nat.le_of_ble_eq_true rfl) dX2_init_58 (fun q17 H hP hD hS => ?_)
  have hP : va_P D vwCl [(h0, .inr (2, [.ref q1, .ref q2, .int 0, .int 0, .int 0, .int 0])), (q1, .inl (a1, 3, .inr (.inr (.inr (.inr (va_up (va_up (va_up (fun _ => none) (0 : Int32).toNatClampNeg (some q4)) (1 : Int32).toNatClampNeg (some q7)) (2 : Int32).toNatClampNeg (some q10))))))), (q2, .inl (a2, 4, .inr (.inr (.inr (.inr (va_up (fun _ => none) (0 : Int32).toNatClampNeg (some q14))))))), (q4, .inr (3, [.int 0, .int 0, .int 0, .int 0])), (q7, .inr (3, [.int 0, .int 0, .int 0, .int 0])), (q10, .inr (3, [.int 0, .int 0, .int 0, .int 0])), (q14, .inr (0, [.int 0, .int 0, .int 0, .int 0, .int 0, .int 0])), (q17, .inr (0, [.int 0, .int 0, .int 0, .int 0, .int 0, .int 0]))] H := hP
  have hD : va_D A [(h0, .inr (2, [.ref q1, .ref q2, .int 0, .int 0, .int 0, .int 0])), (q1, .inl (a1, 3, .inr (.inr (.inr (.inr (va_up (va_up (va_up (fun _ => none) (0 : Int32).toNatClampNeg (some q4)) (1 : Int32).toNatClampNeg (some q7)) (2 : Int32).toNatClampNeg (some q10))))))), (q2, .inl (a2, 4, .inr (.inr (.inr (.inr (va_up (fun _ => none) (0 : Int32).toNatClampNeg (some q14))))))), (q4, .inr (3, [.int 0, .int 0, .int 0, .int 0])), (q7, .inr (3, [.int 0, .int 0, .int 0, .int 0])), (q10, .inr (3, [.int 0, .int 0, .int 0, .int 0])), (q14, .inr (0, [.int 0, .int 0, .int 0, .int 0, .int 0, .int 0])), (q17, .inr (0, [.int 0, .int 0, .int 0, .int 0, .int 0, .int 0]))] := hD
  have hK : va_K D vwCl [(a1, .object "KindWords$Victim"), (a2, .object "KindWords$Convict")] s := hK
  refine W.widen (k := 7) (n := 31) (by omega) (by omega) ?_
  refine lv_dup hx hb dX2_init_61 rfl ?_
  have hPc := hP.sub (ws' := [(q17, .inr (0, [.int 0, .int 0, .int 0, .int 0, .int 0, .int 0]))]) [7] rfl
  have hDc := hD.sub (ws' := [(q17, .inr (0, [.int 0, .int 0, .int 0, .int 0, .int 0, .int 0]))]) [7] (by decide) rfl
  have hKc := hK.sub (tys' := []) [] rfl
  have hFc := va_free (wc := [(q17, .inr (0, [.int 0, .int 0, .int 0, .int 0, .int 0, .int 0]))]) hD hS hA [7] rfl
  refine va_callv (va_runIN (As := []) (rest := [.ref q17, .int 1, .ref q2]) ⟨hx, hb, hml, hown, hts⟩ (c_X0_init l D q17 H.size) ⟨va_cnB 0 hts (wY_good tw_1_59) rfl rfl rfl hN.2.2.2.1 (hts (Cond.initialized RX0) (List.mem_cons_of_mem _ tw_1_4)) ⟨by decide, by decide, by decide +kernel⟩ ⟨Nat.le_of_ble_eq_true rfl, Nat.le_of_ble_eq_true rfl⟩, rfl, (hts (Cond.instanceMethod yX0_init) (List.mem_cons_of_mem _ tw_1_58))⟩ ⟨fun a U g mk q => by obtain ⟨q0, q1, qP, qK, qD, qN⟩ := q; exact ⟨q0, q1, qP, va_K.moved (u := U) (U := U.calling g mk a) (Vm.Alike.refl U.vm) qK, qD, xN_same rfl qN⟩, fun U hU hW => ⟨rfl, by rw [hU], by rw [hU]; exact hPc, va_K.moved hW.alike hKc, hDc.weaken (fun _ _ _ _ => trivial), xN_warm hW hN⟩⟩ rfl rfl hl.1 rfl (lv_room (Nat.le_of_ble_eq_true rfl)) dX2_init_62 ⟨Nat.le_of_ble_eq_true rfl, Nat.le_of_ble_eq_true rfl⟩) hS (fun q _ h => hFc q h) hFc (fun u t H1 locs ht hvm hw hB hz1 hk1 hS => ?_)
  obtain ⟨hP1, hK1, hD1⟩ := hB
  rw [ht] at hP1
  have hK1 := va_K.moved hvm.symm hK1
  obtain ⟨hP, hD⟩ := va_join (wr := [(h0, .inr (2, [.ref q1, .ref q2, .int 0, .int 0, .int 0, .int 0])), (q1, .inl (a1, 3, .inr (.inr (.inr (.inr (va_up (va_up (va_up (fun _ => none) (0 : Int32).toNatClampNeg (some q4)) (1 : Int32).toNatClampNeg (some q7)) (2 : Int32).toNatClampNeg (some q10))))))), (q2, .inl (a2, 4, .inr (.inr (.inr (.inr (va_up (fun _ => none) (0 : Int32).toNatClampNeg (some q14))))))), (q4, .inr (3, [.int 0, .int 0, .int 0, .int 0])), (q7, .inr (3, [.int 0, .int 0, .int 0, .int 0])), (q10, .inr (3, [.int 0, .int 0, .int 0, .int 0])), (q14, .inr (0, [.int 0, .int 0, .int 0, .int 0, .int 0, .int 0]))]) (w1 := [(q17, .inr (0, [.int 0, .int 0, .int 0, .int 0, .int 0, .int 0]))]) hP hD [7] [0, 1, 2, 3, 4, 5, 6] rfl rfl (by decide) (by decide) hk1 hFc hP1 hD1
  have hK := (hK.sub (tys' := [(a1, .object "KindWords$Victim"), (a2, .object "KindWords$Convict")]) [0, 1] rfl).app hK1
  generalize H1 = H at hP hS ⊢
  have hP : va_P D vwCl [(h0, .inr (2, [.ref q1, .ref q2, .int 0, .int 0, .int 0, .int 0])), (q1, .inl (a1, 3, .inr (.inr (.inr (.inr (va_up (va_up (va_up (fun _ => none) (0 : Int32).toNatClampNeg (some q4)) (1 : Int32).toNatClampNeg (some q7)) (2 : Int32).toNatClampNeg (some q10))))))), (q2, .inl (a2, 4, .inr (.inr (.inr (.inr (va_up (fun _ => none) (0 : Int32).toNatClampNeg (some q14))))))), (q4, .inr (3, [.int 0, .int 0, .int 0, .int 0])), (q7, .inr (3, [.int 0, .int 0, .int 0, .int 0])), (q10, .inr (3, [.int 0, .int 0, .int 0, .int 0])), (q14, .inr (0, [.int 0, .int 0, .int 0, .int 0, .int 0, .int 0])), (q17, .inr (0, [.int 0, .int 0, .int 0, .int 0, .int 0, .int 0]))] H := hP
  have hD : va_D A [(h0, .inr (2, [.ref q1, .ref q2, .int 0, .int 0, .int 0, .int 0])), (q1, .inl (a1, 3, .inr (.inr (.inr (.inr (va_up (va_up (va_up (fun _ => none) (0 : Int32).toNatClampNeg (some q4)) (1 : Int32).toNatClampNeg (some q7)) (2 : Int32).toNatClampNeg (some q10))))))), (q2, .inl (a2, 4, .inr (.inr (.inr (.inr (va_up (fun _ => none) (0 : Int32).toNatClampNeg (some q14))))))), (q4, .inr (3, [.int 0, .int 0, .int 0, .int 0])), (q7, .inr (3, [.int 0, .int 0, .int 0, .int 0])), (q10, .inr (3, [.int 0, .int 0, .int 0, .int 0])), (q14, .inr (0, [.int 0, .int 0, .int 0, .int 0, .int 0, .int 0])), (q17, .inr (0, [.int 0, .int 0, .int 0, .int 0, .int 0, .int 0]))] := hD
  have hK : va_K D vwCl [(a1, .object "KindWords$Victim"), (a2, .object "KindWords$Convict")] s := hK
  refine W.widen (k := 7) (n := 31) (by omega) (by omega) ?_
  refine va_astq hx hb hK hP hD hS 2 1 7 0 rfl rfl rfl rfl (i := 1) (show vp_in (nI 1) 4 from vp_in_nI (by decide) (by decide)) dX2_init_65 (fun H locs hP hD hS => ?_)
  have hP : va_P D vwCl [(h0, .inr (2, [.ref q1, .ref q2, .int 0, .int 0, .int 0, .int 0])), (q1, .inl (a1, 3, .inr (.inr (.inr (.inr (va_up (va_up (va_up (fun _ => none) (0 : Int32).toNatClampNeg (some q4)) (1 : Int32).toNatClampNeg (some q7)) (2 : Int32).toNatClampNeg (some q10))))))), (q2, .inl (a2, 4, .inr (.inr (.inr (.inr (va_up (va_up (fun _ => none) (0 : Int32).toNatClampNeg (some q14)) (1 : Int32).toNatClampNeg (some q17))))))), (q4, .inr (3, [.int 0, .int 0, .int 0, .int 0])), (q7, .inr (3, [.int 0, .int 0, .int 0, .int 0])), (q10, .inr (3, [.int 0, .int 0, .int 0, .int 0])), (q14, .inr (0, [.int 0, .int 0, .int 0, .int 0, .int 0, .int 0])), (q17, .inr (0, [.int 0, .int 0, .int 0, .int 0, .int 0, .int 0]))] H := hP
  have hD : va_D A [(h0, .inr (2, [.ref q1, .ref q2, .int 0, .int 0, .int 0, .int 0])), (q1, .inl (a1, 3, .inr (.inr (.inr (.inr (va_up (va_up (va_up (fun _ => none) (0 : Int32).toNatClampNeg (some q4)) (1 : Int32).toNatClampNeg (some q7)) (2 : Int32).toNatClampNeg (some q10))))))), (q2, .inl (a2, 4, .inr (.inr (.inr (.inr (va_up (va_up (fun _ => none) (0 : Int32).toNatClampNeg (some q14)) (1 : Int32).toNatClampNeg (some q17))))))), (q4, .inr (3, [.int 0, .int 0, .int 0, .int 0])), (q7, .inr (3, [.int 0, .int 0, .int 0, .int 0])), (q10, .inr (3, [.int 0, .int 0, .int 0, .int 0])), (q14, .inr (0, [.int 0, .int 0, .int 0, .int 0, .int 0, .int 0])), (q17, .inr (0, [.int 0, .int 0, .int 0, .int 0, .int 0, .int 0]))] := hD
  have hK : va_K D vwCl [(a1, .object "KindWords$Victim"), (a2, .object "KindWords$Convict")] s := hK
  refine lv_iinc (v := 2) (lv' := [(1, .int 2), (0, .ref h0)]) hx hb dX2_init_66 hl (k := 0) rfl (by decide) (by decide) rfl (fun ls hl => ?_)
  refine lv_goto (tgt := 48) hx hb dX2_init_69 (by decide) ?_
  refine lv_iload_n hx hb dX2_init_48 rfl (lv_at hl 0 rfl) ?_
  refine lv_iconst (v := 4) hx hb dX2_init_49 (by decide) ?_
  refine lv_icmp_ge (tgt := 72) hx hb dX2_init_50 (by decide) (fun c_18 => absurd c_18 (by decide)) (fun _ => ?_)
  refine lv_aload_n hx hb dX2_init_53 rfl (lv_at hl 1 rfl) ?_
  refine va_get (D := D) (ci := 2) (v := .ref q2) (C := RX2) (T := TX2) (N := 6) hx hb hts inWX2 hown hK hP 0 rfl rfl 1 (by decide) (hts (Cond.fieldLink RX2 19 "KindWords$Town" "convicts" "[LKindWords$Convict;") (List.mem_cons_of_mem _ tw_1_95)) (fun _ h9 => h9) rfl dX2_init_54 ?_
  refine lv_iload_n hx hb dX2_init_57 rfl (lv_at hl 0 rfl) ?_
  refine va_new (ci := 0) (fs := [.int 0, .int 0, .int 0, .int 0, .int 0, .int 0]) (C := RX0) (T := TX0) (N := 6) hx hb hts inWX0 tyX0 tyX0_ok hown (hts (Cond.classLink RX2 17 "KindWords$Convict") (List.mem_cons_of_mem _ tw_1_30)) (hts (Cond.instantiable RX0 6) (List.mem_cons_of_mem _ tw_1_56)) (hts (Cond.initialized RX0) (List.mem_cons_of_mem _ tw_1_4)) hK hP hD hS hA rfl (fun j hj => by rcases (show j = 0 ∨ j = 1 ∨ j = 2 ∨ j = 3 ∨ j = 4 ∨ j = 5 by omega) with rfl | rfl | rfl | rfl | rfl | rfl <;> rfl) (Nat.le_of_ble_eq_true rfl) (Nat.le_of_ble_eq_true rfl) dX2_init_58 (fun q20 H hP hD hS => ?_)
  have hP : va_P D vwCl [(h0, .inr (2, [.ref q1, .ref q2, .int 0, .int 0, .int 0, .int 0])), (q1, .inl (a1, 3, .inr (.inr (.inr (.inr (va_up (va_up (va_up (fun _ => none) (0 : Int32).toNatClampNeg (some q4)) (1 : Int32).toNatClampNeg (some q7)) (2 : Int32).toNatClampNeg (some q10))))))), (q2, .inl (a2, 4, .inr (.inr (.inr (.inr (va_up (va_up (fun _ => none) (0 : Int32).toNatClampNeg (some q14)) (1 : Int32).toNatClampNeg (some q17))))))), (q4, .inr (3, [.int 0, .int 0, .int 0, .int 0])), (q7, .inr (3, [.int 0, .int 0, .int 0, .int 0])), (q10, .inr (3, [.int 0, .int 0, .int 0, .int 0])), (q14, .inr (0, [.int 0, .int 0, .int 0, .int 0, .int 0, .int 0])), (q17, .inr (0, [.int 0, .int 0, .int 0, .int 0, .int 0, .int 0])), (q20, .inr (0, [.int 0, .int 0, .int 0, .int 0, .int 0, .int 0]))] H := hP
  have hD : va_D A [(h0, .inr (2, [.ref q1, .ref q2, .int 0, .int 0, .int 0, .int 0])), (q1, .inl (a1, 3, .inr (.inr (.inr (.inr (va_up (va_up (va_up (fun _ => none) (0 : Int32).toNatClampNeg (some q4)) (1 : Int32).toNatClampNeg (some q7)) (2 : Int32).toNatClampNeg (some q10))))))), (q2, .inl (a2, 4, .inr (.inr (.inr (.inr (va_up (va_up (fun _ => none) (0 : Int32).toNatClampNeg (some q14)) (1 : Int32).toNatClampNeg (some q17))))))), (q4, .inr (3, [.int 0, .int 0, .int 0, .int 0])), (q7, .inr (3, [.int 0, .int 0, .int 0, .int 0])), (q10, .inr (3, [.int 0, .int 0, .int 0, .int 0])), (q14, .inr (0, [.int 0, .int 0, .int 0, .int 0, .int 0, .int 0])), (q17, .inr (0, [.int 0, .int 0, .int 0, .int 0, .int 0, .int 0])), (q20, .inr (0, [.int 0, .int 0, .int 0, .int 0, .int 0, .int 0]))] := hD
  have hK : va_K D vwCl [(a1, .object "KindWords$Victim"), (a2, .object "KindWords$Convict")] s := hK
  refine W.widen (k := 8) (n := 37) (by omega) (by omega) ?_
  refine lv_dup hx hb dX2_init_61 rfl ?_
  have hPc := hP.sub (ws' := [(q20, .inr (0, [.int 0, .int 0, .int 0, .int 0, .int 0, .int 0]))]) [8] rfl
  have hDc := hD.sub (ws' := [(q20, .inr (0, [.int 0, .int 0, .int 0, .int 0, .int 0, .int 0]))]) [8] (by decide) rfl
  have hKc := hK.sub (tys' := []) [] rfl
  have hFc := va_free (wc := [(q20, .inr (0, [.int 0, .int 0, .int 0, .int 0, .int 0, .int 0]))]) hD hS hA [8] rfl
  refine va_callv (va_runIN (As := []) (rest := [.ref q20, .int 2, .ref q2]) ⟨hx, hb, hml, hown, hts⟩ (c_X0_init l D q20 H.size) ⟨va_cnB 0 hts (wY_good tw_1_59) rfl rfl rfl hN.2.2.2.1 (hts (Cond.initialized RX0) (List.mem_cons_of_mem _ tw_1_4)) ⟨by decide, by decide, by decide +kernel⟩ ⟨Nat.le_of_ble_eq_true rfl, Nat.le_of_ble_eq_true rfl⟩, rfl, (hts (Cond.instanceMethod yX0_init) (List.mem_cons_of_mem _ tw_1_58))⟩ ⟨fun a U g mk q => by obtain ⟨q0, q1, qP, qK, qD, qN⟩ := q; exact ⟨q0, q1, qP, va_K.moved (u := U) (U := U.calling g mk a) (Vm.Alike.refl U.vm) qK, qD, xN_same rfl qN⟩, fun U hU hW => ⟨rfl, by rw [hU], by rw [hU]; exact hPc, va_K.moved hW.alike hKc, hDc.weaken (fun _ _ _ _ => trivial), xN_warm hW hN⟩⟩ rfl rfl hl.1 rfl (lv_room (Nat.le_of_ble_eq_true rfl)) dX2_init_62 ⟨Nat.le_of_ble_eq_true rfl, Nat.le_of_ble_eq_true rfl⟩) hS (fun q _ h => hFc q h) hFc (fun u t H1 locs ht hvm hw hB hz1 hk1 hS => ?_)
  obtain ⟨hP1, hK1, hD1⟩ := hB
  rw [ht] at hP1
  have hK1 := va_K.moved hvm.symm hK1
  obtain ⟨hP, hD⟩ := va_join (wr := [(h0, .inr (2, [.ref q1, .ref q2, .int 0, .int 0, .int 0, .int 0])), (q1, .inl (a1, 3, .inr (.inr (.inr (.inr (va_up (va_up (va_up (fun _ => none) (0 : Int32).toNatClampNeg (some q4)) (1 : Int32).toNatClampNeg (some q7)) (2 : Int32).toNatClampNeg (some q10))))))), (q2, .inl (a2, 4, .inr (.inr (.inr (.inr (va_up (va_up (fun _ => none) (0 : Int32).toNatClampNeg (some q14)) (1 : Int32).toNatClampNeg (some q17))))))), (q4, .inr (3, [.int 0, .int 0, .int 0, .int 0])), (q7, .inr (3, [.int 0, .int 0, .int 0, .int 0])), (q10, .inr (3, [.int 0, .int 0, .int 0, .int 0])), (q14, .inr (0, [.int 0, .int 0, .int 0, .int 0, .int 0, .int 0])), (q17, .inr (0, [.int 0, .int 0, .int 0, .int 0, .int 0, .int 0]))]) (w1 := [(q20, .inr (0, [.int 0, .int 0, .int 0, .int 0, .int 0, .int 0]))]) hP hD [8] [0, 1, 2, 3, 4, 5, 6, 7] rfl rfl (by decide) (by decide) hk1 hFc hP1 hD1
  have hK := (hK.sub (tys' := [(a1, .object "KindWords$Victim"), (a2, .object "KindWords$Convict")]) [0, 1] rfl).app hK1
  generalize H1 = H at hP hS ⊢
  have hP : va_P D vwCl [(h0, .inr (2, [.ref q1, .ref q2, .int 0, .int 0, .int 0, .int 0])), (q1, .inl (a1, 3, .inr (.inr (.inr (.inr (va_up (va_up (va_up (fun _ => none) (0 : Int32).toNatClampNeg (some q4)) (1 : Int32).toNatClampNeg (some q7)) (2 : Int32).toNatClampNeg (some q10))))))), (q2, .inl (a2, 4, .inr (.inr (.inr (.inr (va_up (va_up (fun _ => none) (0 : Int32).toNatClampNeg (some q14)) (1 : Int32).toNatClampNeg (some q17))))))), (q4, .inr (3, [.int 0, .int 0, .int 0, .int 0])), (q7, .inr (3, [.int 0, .int 0, .int 0, .int 0])), (q10, .inr (3, [.int 0, .int 0, .int 0, .int 0])), (q14, .inr (0, [.int 0, .int 0, .int 0, .int 0, .int 0, .int 0])), (q17, .inr (0, [.int 0, .int 0, .int 0, .int 0, .int 0, .int 0])), (q20, .inr (0, [.int 0, .int 0, .int 0, .int 0, .int 0, .int 0]))] H := hP
  have hD : va_D A [(h0, .inr (2, [.ref q1, .ref q2, .int 0, .int 0, .int 0, .int 0])), (q1, .inl (a1, 3, .inr (.inr (.inr (.inr (va_up (va_up (va_up (fun _ => none) (0 : Int32).toNatClampNeg (some q4)) (1 : Int32).toNatClampNeg (some q7)) (2 : Int32).toNatClampNeg (some q10))))))), (q2, .inl (a2, 4, .inr (.inr (.inr (.inr (va_up (va_up (fun _ => none) (0 : Int32).toNatClampNeg (some q14)) (1 : Int32).toNatClampNeg (some q17))))))), (q4, .inr (3, [.int 0, .int 0, .int 0, .int 0])), (q7, .inr (3, [.int 0, .int 0, .int 0, .int 0])), (q10, .inr (3, [.int 0, .int 0, .int 0, .int 0])), (q14, .inr (0, [.int 0, .int 0, .int 0, .int 0, .int 0, .int 0])), (q17, .inr (0, [.int 0, .int 0, .int 0, .int 0, .int 0, .int 0])), (q20, .inr (0, [.int 0, .int 0, .int 0, .int 0, .int 0, .int 0]))] := hD
  have hK : va_K D vwCl [(a1, .object "KindWords$Victim"), (a2, .object "KindWords$Convict")] s := hK
  refine W.widen (k := 8) (n := 37) (by omega) (by omega) ?_
  refine va_astq hx hb hK hP hD hS 2 1 8 0 rfl rfl rfl rfl (i := 2) (show vp_in (nI 2) 4 from vp_in_nI (by decide) (by decide)) dX2_init_65 (fun H locs hP hD hS => ?_)
  have hP : va_P D vwCl [(h0, .inr (2, [.ref q1, .ref q2, .int 0, .int 0, .int 0, .int 0])), (q1, .inl (a1, 3, .inr (.inr (.inr (.inr (va_up (va_up (va_up (fun _ => none) (0 : Int32).toNatClampNeg (some q4)) (1 : Int32).toNatClampNeg (some q7)) (2 : Int32).toNatClampNeg (some q10))))))), (q2, .inl (a2, 4, .inr (.inr (.inr (.inr (va_up (va_up (va_up (fun _ => none) (0 : Int32).toNatClampNeg (some q14)) (1 : Int32).toNatClampNeg (some q17)) (2 : Int32).toNatClampNeg (some q20))))))), (q4, .inr (3, [.int 0, .int 0, .int 0, .int 0])), (q7, .inr (3, [.int 0, .int 0, .int 0, .int 0])), (q10, .inr (3, [.int 0, .int 0, .int 0, .int 0])), (q14, .inr (0, [.int 0, .int 0, .int 0, .int 0, .int 0, .int 0])), (q17, .inr (0, [.int 0, .int 0, .int 0, .int 0, .int 0, .int 0])), (q20, .inr (0, [.int 0, .int 0, .int 0, .int 0, .int 0, .int 0]))] H := hP
  have hD : va_D A [(h0, .inr (2, [.ref q1, .ref q2, .int 0, .int 0, .int 0, .int 0])), (q1, .inl (a1, 3, .inr (.inr (.inr (.inr (va_up (va_up (va_up (fun _ => none) (0 : Int32).toNatClampNeg (some q4)) (1 : Int32).toNatClampNeg (some q7)) (2 : Int32).toNatClampNeg (some q10))))))), (q2, .inl (a2, 4, .inr (.inr (.inr (.inr (va_up (va_up (va_up (fun _ => none) (0 : Int32).toNatClampNeg (some q14)) (1 : Int32).toNatClampNeg (some q17)) (2 : Int32).toNatClampNeg (some q20))))))), (q4, .inr (3, [.int 0, .int 0, .int 0, .int 0])), (q7, .inr (3, [.int 0, .int 0, .int 0, .int 0])), (q10, .inr (3, [.int 0, .int 0, .int 0, .int 0])), (q14, .inr (0, [.int 0, .int 0, .int 0, .int 0, .int 0, .int 0])), (q17, .inr (0, [.int 0, .int 0, .int 0, .int 0, .int 0, .int 0])), (q20, .inr (0, [.int 0, .int 0, .int 0, .int 0, .int 0, .int 0]))] := hD
  have hK : va_K D vwCl [(a1, .object "KindWords$Victim"), (a2, .object "KindWords$Convict")] s := hK
  refine lv_iinc (v := 3) (lv' := [(1, .int 3), (0, .ref h0)]) hx hb dX2_init_66 hl (k := 0) rfl (by decide) (by decide) rfl (fun ls hl => ?_)
  refine lv_goto (tgt := 48) hx hb dX2_init_69 (by decide) ?_
  refine lv_iload_n hx hb dX2_init_48 rfl (lv_at hl 0 rfl) ?_
  refine lv_iconst (v := 4) hx hb dX2_init_49 (by decide) ?_
  refine lv_icmp_ge (tgt := 72) hx hb dX2_init_50 (by decide) (fun c_21 => absurd c_21 (by decide)) (fun _ => ?_)
  refine lv_aload_n hx hb dX2_init_53 rfl (lv_at hl 1 rfl) ?_
  refine va_get (D := D) (ci := 2) (v := .ref q2) (C := RX2) (T := TX2) (N := 6) hx hb hts inWX2 hown hK hP 0 rfl rfl 1 (by decide) (hts (Cond.fieldLink RX2 19 "KindWords$Town" "convicts" "[LKindWords$Convict;") (List.mem_cons_of_mem _ tw_1_95)) (fun _ h9 => h9) rfl dX2_init_54 ?_
  refine lv_iload_n hx hb dX2_init_57 rfl (lv_at hl 0 rfl) ?_
  refine va_new (ci := 0) (fs := [.int 0, .int 0, .int 0, .int 0, .int 0, .int 0]) (C := RX0) (T := TX0) (N := 6) hx hb hts inWX0 tyX0 tyX0_ok hown (hts (Cond.classLink RX2 17 "KindWords$Convict") (List.mem_cons_of_mem _ tw_1_30)) (hts (Cond.instantiable RX0 6) (List.mem_cons_of_mem _ tw_1_56)) (hts (Cond.initialized RX0) (List.mem_cons_of_mem _ tw_1_4)) hK hP hD hS hA rfl (fun j hj => by rcases (show j = 0 ∨ j = 1 ∨ j = 2 ∨ j = 3 ∨ j = 4 ∨ j = 5 by omega) with rfl | rfl | rfl | rfl | rfl | rfl <;> rfl) (Nat.le_of_ble_eq_true rfl) (Nat.le_of_ble_eq_true rfl) dX2_init_58 (fun q23 H hP hD hS => ?_)
  have hP : va_P D vwCl [(h0, .inr (2, [.ref q1, .ref q2, .int 0, .int 0, .int 0, .int 0])), (q1, .inl (a1, 3, .inr (.inr (.inr (.inr (va_up (va_up (va_up (fun _ => none) (0 : Int32).toNatClampNeg (some q4)) (1 : Int32).toNatClampNeg (some q7)) (2 : Int32).toNatClampNeg (some q10))))))), (q2, .inl (a2, 4, .inr (.inr (.inr (.inr (va_up (va_up (va_up (fun _ => none) (0 : Int32).toNatClampNeg (some q14)) (1 : Int32).toNatClampNeg (some q17)) (2 : Int32).toNatClampNeg (some q20))))))), (q4, .inr (3, [.int 0, .int 0, .int 0, .int 0])), (q7, .inr (3, [.int 0, .int 0, .int 0, .int 0])), (q10, .inr (3, [.int 0, .int 0, .int 0, .int 0])), (q14, .inr (0, [.int 0, .int 0, .int 0, .int 0, .int 0, .int 0])), (q17, .inr (0, [.int 0, .int 0, .int 0, .int 0, .int 0, .int 0])), (q20, .inr (0, [.int 0, .int 0, .int 0, .int 0, .int 0, .int 0])), (q23, .inr (0, [.int 0, .int 0, .int 0, .int 0, .int 0, .int 0]))] H := hP
  have hD : va_D A [(h0, .inr (2, [.ref q1, .ref q2, .int 0, .int 0, .int 0, .int 0])), (q1, .inl (a1, 3, .inr (.inr (.inr (.inr (va_up (va_up (va_up (fun _ => none) (0 : Int32).toNatClampNeg (some q4)) (1 : Int32).toNatClampNeg (some q7)) (2 : Int32).toNatClampNeg (some q10))))))), (q2, .inl (a2, 4, .inr (.inr (.inr (.inr (va_up (va_up (va_up (fun _ => none) (0 : Int32).toNatClampNeg (some q14)) (1 : Int32).toNatClampNeg (some q17)) (2 : Int32).toNatClampNeg (some q20))))))), (q4, .inr (3, [.int 0, .int 0, .int 0, .int 0])), (q7, .inr (3, [.int 0, .int 0, .int 0, .int 0])), (q10, .inr (3, [.int 0, .int 0, .int 0, .int 0])), (q14, .inr (0, [.int 0, .int 0, .int 0, .int 0, .int 0, .int 0])), (q17, .inr (0, [.int 0, .int 0, .int 0, .int 0, .int 0, .int 0])), (q20, .inr (0, [.int 0, .int 0, .int 0, .int 0, .int 0, .int 0])), (q23, .inr (0, [.int 0, .int 0, .int 0, .int 0, .int 0, .int 0]))] := hD
  have hK : va_K D vwCl [(a1, .object "KindWords$Victim"), (a2, .object "KindWords$Convict")] s := hK
  refine W.widen (k := 9) (n := 43) (by omega) (by omega) ?_
  refine lv_dup hx hb dX2_init_61 rfl ?_
  have hPc := hP.sub (ws' := [(q23, .inr (0, [.int 0, .int 0, .int 0, .int 0, .int 0, .int 0]))]) [9] rfl
  have hDc := hD.sub (ws' := [(q23, .inr (0, [.int 0, .int 0, .int 0, .int 0, .int 0, .int 0]))]) [9] (by decide) rfl
  have hKc := hK.sub (tys' := []) [] rfl
  have hFc := va_free (wc := [(q23, .inr (0, [.int 0, .int 0, .int 0, .int 0, .int 0, .int 0]))]) hD hS hA [9] rfl
  refine va_callv (va_runIN (As := []) (rest := [.ref q23, .int 3, .ref q2]) ⟨hx, hb, hml, hown, hts⟩ (c_X0_init l D q23 H.size) ⟨va_cnB 0 hts (wY_good tw_1_59) rfl rfl rfl hN.2.2.2.1 (hts (Cond.initialized RX0) (List.mem_cons_of_mem _ tw_1_4)) ⟨by decide, by decide, by decide +kernel⟩ ⟨Nat.le_of_ble_eq_true rfl, Nat.le_of_ble_eq_true rfl⟩, rfl, (hts (Cond.instanceMethod yX0_init) (List.mem_cons_of_mem _ tw_1_58))⟩ ⟨fun a U g mk q => by obtain ⟨q0, q1, qP, qK, qD, qN⟩ := q; exact ⟨q0, q1, qP, va_K.moved (u := U) (U := U.calling g mk a) (Vm.Alike.refl U.vm) qK, qD, xN_same rfl qN⟩, fun U hU hW => ⟨rfl, by rw [hU], by rw [hU]; exact hPc, va_K.moved hW.alike hKc, hDc.weaken (fun _ _ _ _ => trivial), xN_warm hW hN⟩⟩ rfl rfl hl.1 rfl (lv_room (Nat.le_of_ble_eq_true rfl)) dX2_init_62 ⟨Nat.le_of_ble_eq_true rfl, Nat.le_of_ble_eq_true rfl⟩) hS (fun q _ h => hFc q h) hFc (fun u t H1 locs ht hvm hw hB hz1 hk1 hS => ?_)
  obtain ⟨hP1, hK1, hD1⟩ := hB
  rw [ht] at hP1
  have hK1 := va_K.moved hvm.symm hK1
  obtain ⟨hP, hD⟩ := va_join (wr := [(h0, .inr (2, [.ref q1, .ref q2, .int 0, .int 0, .int 0, .int 0])), (q1, .inl (a1, 3, .inr (.inr (.inr (.inr (va_up (va_up (va_up (fun _ => none) (0 : Int32).toNatClampNeg (some q4)) (1 : Int32).toNatClampNeg (some q7)) (2 : Int32).toNatClampNeg (some q10))))))), (q2, .inl (a2, 4, .inr (.inr (.inr (.inr (va_up (va_up (va_up (fun _ => none) (0 : Int32).toNatClampNeg (some q14)) (1 : Int32).toNatClampNeg (some q17)) (2 : Int32).toNatClampNeg (some q20))))))), (q4, .inr (3, [.int 0, .int 0, .int 0, .int 0])), (q7, .inr (3, [.int 0, .int 0, .int 0, .int 0])), (q10, .inr (3, [.int 0, .int 0, .int 0, .int 0])), (q14, .inr (0, [.int 0, .int 0, .int 0, .int 0, .int 0, .int 0])), (q17, .inr (0, [.int 0, .int 0, .int 0, .int 0, .int 0, .int 0])), (q20, .inr (0, [.int 0, .int 0, .int 0, .int 0, .int 0, .int 0]))]) (w1 := [(q23, .inr (0, [.int 0, .int 0, .int 0, .int 0, .int 0, .int 0]))]) hP hD [9] [0, 1, 2, 3, 4, 5, 6, 7, 8] rfl rfl (by decide) (by decide) hk1 hFc hP1 hD1
  have hK := (hK.sub (tys' := [(a1, .object "KindWords$Victim"), (a2, .object "KindWords$Convict")]) [0, 1] rfl).app hK1
  generalize H1 = H at hP hS ⊢
  have hP : va_P D vwCl [(h0, .inr (2, [.ref q1, .ref q2, .int 0, .int 0, .int 0, .int 0])), (q1, .inl (a1, 3, .inr (.inr (.inr (.inr (va_up (va_up (va_up (fun _ => none) (0 : Int32).toNatClampNeg (some q4)) (1 : Int32).toNatClampNeg (some q7)) (2 : Int32).toNatClampNeg (some q10))))))), (q2, .inl (a2, 4, .inr (.inr (.inr (.inr (va_up (va_up (va_up (fun _ => none) (0 : Int32).toNatClampNeg (some q14)) (1 : Int32).toNatClampNeg (some q17)) (2 : Int32).toNatClampNeg (some q20))))))), (q4, .inr (3, [.int 0, .int 0, .int 0, .int 0])), (q7, .inr (3, [.int 0, .int 0, .int 0, .int 0])), (q10, .inr (3, [.int 0, .int 0, .int 0, .int 0])), (q14, .inr (0, [.int 0, .int 0, .int 0, .int 0, .int 0, .int 0])), (q17, .inr (0, [.int 0, .int 0, .int 0, .int 0, .int 0, .int 0])), (q20, .inr (0, [.int 0, .int 0, .int 0, .int 0, .int 0, .int 0])), (q23, .inr (0, [.int 0, .int 0, .int 0, .int 0, .int 0, .int 0]))] H := hP
  have hD : va_D A [(h0, .inr (2, [.ref q1, .ref q2, .int 0, .int 0, .int 0, .int 0])), (q1, .inl (a1, 3, .inr (.inr (.inr (.inr (va_up (va_up (va_up (fun _ => none) (0 : Int32).toNatClampNeg (some q4)) (1 : Int32).toNatClampNeg (some q7)) (2 : Int32).toNatClampNeg (some q10))))))), (q2, .inl (a2, 4, .inr (.inr (.inr (.inr (va_up (va_up (va_up (fun _ => none) (0 : Int32).toNatClampNeg (some q14)) (1 : Int32).toNatClampNeg (some q17)) (2 : Int32).toNatClampNeg (some q20))))))), (q4, .inr (3, [.int 0, .int 0, .int 0, .int 0])), (q7, .inr (3, [.int 0, .int 0, .int 0, .int 0])), (q10, .inr (3, [.int 0, .int 0, .int 0, .int 0])), (q14, .inr (0, [.int 0, .int 0, .int 0, .int 0, .int 0, .int 0])), (q17, .inr (0, [.int 0, .int 0, .int 0, .int 0, .int 0, .int 0])), (q20, .inr (0, [.int 0, .int 0, .int 0, .int 0, .int 0, .int 0])), (q23, .inr (0, [.int 0, .int 0, .int 0, .int 0, .int 0, .int 0]))] := hD
  have hK : va_K D vwCl [(a1, .object "KindWords$Victim"), (a2, .object "KindWords$Convict")] s := hK
  refine W.widen (k := 9) (n := 43) (by omega) (by omega) ?_
  refine va_astq hx hb hK hP hD hS 2 1 9 0 rfl rfl rfl rfl (i := 3) (show vp_in (nI 3) 4 from vp_in_nI (by decide) (by decide)) dX2_init_65 (fun H locs hP hD hS => ?_)
  have hP : va_P D vwCl [(h0, .inr (2, [.ref q1, .ref q2, .int 0, .int 0, .int 0, .int 0])), (q1, .inl (a1, 3, .inr (.inr (.inr (.inr (va_up (va_up (va_up (fun _ => none) (0 : Int32).toNatClampNeg (some q4)) (1 : Int32).toNatClampNeg (some q7)) (2 : Int32).toNatClampNeg (some q10))))))), (q2, .inl (a2, 4, .inr (.inr (.inr (.inr (va_up (va_up (va_up (va_up (fun _ => none) (0 : Int32).toNatClampNeg (some q14)) (1 : Int32).toNatClampNeg (some q17)) (2 : Int32).toNatClampNeg (some q20)) (3 : Int32).toNatClampNeg (some q23))))))), (q4, .inr (3, [.int 0, .int 0, .int 0, .int 0])), (q7, .inr (3, [.int 0, .int 0, .int 0, .int 0])), (q10, .inr (3, [.int 0, .int 0, .int 0, .int 0])), (q14, .inr (0, [.int 0, .int 0, .int 0, .int 0, .int 0, .int 0])), (q17, .inr (0, [.int 0, .int 0, .int 0, .int 0, .int 0, .int 0])), (q20, .inr (0, [.int 0, .int 0, .int 0, .int 0, .int 0, .int 0])), (q23, .inr (0, [.int 0, .int 0, .int 0, .int 0, .int 0, .int 0]))] H := hP
  have hD : va_D A [(h0, .inr (2, [.ref q1, .ref q2, .int 0, .int 0, .int 0, .int 0])), (q1, .inl (a1, 3, .inr (.inr (.inr (.inr (va_up (va_up (va_up (fun _ => none) (0 : Int32).toNatClampNeg (some q4)) (1 : Int32).toNatClampNeg (some q7)) (2 : Int32).toNatClampNeg (some q10))))))), (q2, .inl (a2, 4, .inr (.inr (.inr (.inr (va_up (va_up (va_up (va_up (fun _ => none) (0 : Int32).toNatClampNeg (some q14)) (1 : Int32).toNatClampNeg (some q17)) (2 : Int32).toNatClampNeg (some q20)) (3 : Int32).toNatClampNeg (some q23))))))), (q4, .inr (3, [.int 0, .int 0, .int 0, .int 0])), (q7, .inr (3, [.int 0, .int 0, .int 0, .int 0])), (q10, .inr (3, [.int 0, .int 0, .int 0, .int 0])), (q14, .inr (0, [.int 0, .int 0, .int 0, .int 0, .int 0, .int 0])), (q17, .inr (0, [.int 0, .int 0, .int 0, .int 0, .int 0, .int 0])), (q20, .inr (0, [.int 0, .int 0, .int 0, .int 0, .int 0, .int 0])), (q23, .inr (0, [.int 0, .int 0, .int 0, .int 0, .int 0, .int 0]))] := hD
  have hK : va_K D vwCl [(a1, .object "KindWords$Victim"), (a2, .object "KindWords$Convict")] s := hK
  refine lv_iinc (v := 4) (lv' := [(1, .int 4), (0, .ref h0)]) hx hb dX2_init_66 hl (k := 0) rfl (by decide) (by decide) rfl (fun ls hl => ?_)
  refine lv_goto (tgt := 48) hx hb dX2_init_69 (by decide) ?_
  refine lv_iload_n hx hb dX2_init_48 rfl (lv_at hl 0 rfl) ?_
  refine lv_iconst (v := 4) hx hb dX2_init_49 (by decide) ?_
  refine lv_icmp_ge (tgt := 72) hx hb dX2_init_50 (by decide) (fun _ => ?_) (fun c_24 => absurd (by decide) c_24)
  have hP := P_arr (f' := fun j => some ((fun i => [h0, q1, q2, q4, q7, q10, q14, q17, q20, q23].getD i 0) (3 + j))) hP 1 rfl (fun j hj => by rcases (show j = 0 ∨ j = 1 ∨ j = 2 by omega) with rfl | rfl | rfl <;> rfl)
  have hD := D_arr (e' := .inl (a1, 3, .inr (.inr (.inr (.inr (fun j => some ((fun i => [h0, q1, q2, q4, q7, q10, q14, q17, q20, q23].getD i 0) (3 + j)))))))) hD 1 rfl
  have hP := P_arr (f' := fun j => some ((fun i => [h0, q1, q2, q4, q7, q10, q14, q17, q20, q23].getD i 0) (6 + j))) hP 2 rfl (fun j hj => by rcases (show j = 0 ∨ j = 1 ∨ j = 2 ∨ j = 3 by omega) with rfl | rfl | rfl | rfl <;> rfl)
  have hD := D_arr (e' := .inl (a2, 4, .inr (.inr (.inr (.inr (fun j => some ((fun i => [h0, q1, q2, q4, q7, q10, q14, q17, q20, q23].getD i 0) (6 + j)))))))) hD 2 rfl
  have hP9 : va_P D vwCl (twL (fun i => [h0, q1, q2, q4, q7, q10, q14, q17, q20, q23].getD i 0) a1 a2) H := hP
  have hD9 : va_D A (twL (fun i => [h0, q1, q2, q4, q7, q10, q14, q17, q20, q23].getD i 0) a1 a2) := hD
  exact W.vret hx hb hr (fun t ht hW => ⟨⟨(), rfl, trivial, (fun i => [h0, q1, q2, q4, q7, q10, q14, q17, q20, q23].getD i 0), _, _, rfl, by rw [ht]; exact hP9, va_K.moved hW.alike hK, hD9⟩, hS.F ht⟩) hS.2.2 dX2_init_72
