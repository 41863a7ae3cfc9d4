def shL (h q1 q2 : Nat) (c : ClassId) : va_W := [(h, .inr (1, [.ref q1, .ref q2, .int 0])), (q1, .inl (c, 4, .inl (fun _ => 0))), (q2, .inl (c, 4, .inl (fun _ => 0)))]
def atX1 (D : va_G) (A : Nat → Prop) (h0 : Nat) (t : State) : Prop := ∃ (q1 q2 : Nat) (c : ClassId), va_P D vwCl (shL h0 q1 q2 c) t.heap ∧ va_K D vwCl [(c, .int)] t ∧ va_D A (shL h0 q1 q2 c)
set_option maxHeartbeats 4000000 in
set_option maxRecDepth 100000 in
theorem c_X1_init (l : Launch) (D : va_G) (h0 sz : Nat) : Met l yX1_init (wY yX1_init cX1_init 1 none) ({ frames := 1, cells := 2, slots := 8, locals := 12 }) (va_Pc [.ref h0] (fun U => U.heap.size = sz ∧ va_P D vwCl [(h0, .inr (1, [.null, .null, .int 0]))] U.heap ∧ va_K D vwCl [] U ∧ va_D (fun _ => True) [(h0, .inr (1, [.null, .null, .int 0]))] ∧ xN U)) (va_Qv (fun _ : Unit => True) (fun _ t => atX1 D (va_A [(h0, .inr (1, [.null, .null, .int 0]))] sz) h0 t) (va_A [(h0, .inr (1, [.null, .null, .int 0]))] sz)) 2 8 (va_A [(h0, .inr (1, [.null, .null, .int 0]))] sz) := by
  refine Met.ofW (cc := cX1_init) (maxL := 1) (ret := none) (by decide) rfl ?_
  intro p e s m args below meth c s₁ B hml hv
  obtain ⟨rfl, hsz, hP, hK, hD0, hN⟩ := hv
  have hx := B.exec
  have hb := B.bytes
  have hr := B.returns
  have hts := atoms_spec (ws := wY yX1_init cX1_init 1 none) B.pre
  have hown : s.vm.findClass RX1 = some m.cls := findClass_of_methodNamed B.named
  have hlocks := B.notSynchronized
  have hin : meth.name = "<init>" := (name_of_methodNamed B.named B.method).1
  subst hsz
  have hD := hD0.self (sz := s.heap.size)
  generalize hAe : va_A [(h0, .inr (1, [.null, .null, .int 0]))] s.heap.size = A at hD ⊢
  have hA : ∀ q : Nat, s.heap.size ≤ q → A q := fun q h => by rw [← hAe]; exact Or.inr h
  have hS : va_S A s.heap s.heap [] := va_S.rf
  have hP : va_P D vwCl [(h0, .inr (1, [.null, .null, .int 0]))] s.heap := hP
  have hl := lv_entry ([.ref h0]) (n := 1) (Nat.le_of_ble_eq_true rfl)
  rw [lg_entry_eq]
  generalize (lg_sl ([.ref h0]) ++ List.replicate (1 - (lg_sl ([.ref h0])).length) Slot.unset).toArray = ls at hl ⊢
  have hl : lv_has ls 1 [(0, .ref h0)] := hl
  refine lv_aload_n hx hb dX1_init_0 rfl (lv_at hl 0 rfl) ?_
  refine W.objInit hx hb hown (hts (Cond.methodLink RX1 3 objectInit) (List.mem_cons_of_mem _ tw_1_148)) (hts (Cond.instanceMethod objectInit) (List.mem_cons_of_mem _ tw_1_20)) (hts (Cond.code objectInit object_method_1_code 1 none) (List.mem_cons_of_mem _ tw_1_21)) rfl (by rw [hml]; exact hl.1) rfl dX1_init_1 (Nat.le_of_ble_eq_true rfl) (Nat.le_of_ble_eq_true rfl) ?_
  refine W.eq (g2 := F0 m 4 ls []) rfl ?_
  refine lv_aload_n hx hb dX1_init_4 rfl (lv_at hl 0 rfl) ?_
  refine lv_iconst (v := 4) hx hb dX1_init_5 (by decide) ?_
  refine va_newa (atype := .int) (a0 := (4, .inl (fun _ => 0))) (ty := .int) hx hb (hts (Cond.arrayClass FieldType.int) (List.mem_cons_of_mem _ tw_1_159)) rfl hK hP hD hS hA (fun _ => rfl) (by decide) (N' := 4) (by decide) (by decide) (Nat.le_of_ble_eq_true rfl) (Nat.le_of_ble_eq_true rfl) dX1_init_6 (fun q1 a1 H hK hP hD hS => ?_)
  have hP : va_P D vwCl [(h0, .inr (1, [.null, .null, .int 0])), (q1, .inl (a1, 4, .inl (fun _ => 0)))] H := hP
  have hD : va_D A [(h0, .inr (1, [.null, .null, .int 0])), (q1, .inl (a1, 4, .inl (fun _ => 0)))] := hD
  have hK : va_K D vwCl [(a1, .int)] s := hK
  refine W.widen (k := 1) (n := 4) (by omega) (by omega) ?_
  refine va_putF (D := D) (ci := 1) (v := .ref q1) (ty := .array .int) (C := RX1) (T := TX1) (N := 3) hx hb hts inWX1 tyX1 tyX1_ok nmX1 hown hK hP hD hS 0 rfl rfl 0 (by decide) (hts (Cond.fieldLink RX1 9 "KindWords$Shares" "needs" "[I") (List.mem_cons_of_mem _ tw_1_149)) (fun _ h9 => h9) rfl hin rfl (by decide +kernel) rfl rfl (Nat.le_of_ble_eq_true rfl) dX1_init_8 (fun H locs hP hD hS => ?_)
  have hP : va_P D vwCl [(h0, .inr (1, [.ref q1, .null, .int 0])), (q1, .inl (a1, 4, .inl (fun _ => 0)))] H := hP
  have hD : va_D A [(h0, .inr (1, [.ref q1, .null, .int 0])), (q1, .inl (a1, 4, .inl (fun _ => 0)))] := hD
  have hK : va_K D vwCl [(a1, .int)] s := hK
  refine lv_aload_n hx hb dX1_init_11 rfl (lv_at hl 0 rfl) ?_
  refine lv_iconst (v := 4) hx hb dX1_init_12 (by decide) ?_
  refine va_newa (atype := .int) (a0 := (4, .inl (fun _ => 0))) (ty := .int) hx hb (hts (Cond.arrayClass FieldType.int) (List.mem_cons_of_mem _ tw_1_159)) rfl hK hP hD hS hA (fun _ => rfl) (by decide) (N' := 4) (by decide) (by decide) (Nat.le_of_ble_eq_true rfl) (Nat.le_of_ble_eq_true rfl) dX1_init_13 (fun q2 a2 H hK hP hD hS => ?_)
  have hP : va_P D vwCl [(h0, .inr (1, [.ref q1, .null, .int 0])), (q1, .inl (a1, 4, .inl (fun _ => 0))), (q2, .inl (a2, 4, .inl (fun _ => 0)))] H := hP
  have hD : va_D A [(h0, .inr (1, [.ref q1, .null, .int 0])), (q1, .inl (a1, 4, .inl (fun _ => 0))), (q2, .inl (a2, 4, .inl (fun _ => 0)))] := hD
  have hK : va_K D vwCl [(a1, .int), (a2, .int)] s := hK
  refine W.widen (k := 2) (n := 8) (by omega) (by omega) ?_
  refine va_putF (D := D) (ci := 1) (v := .ref q2) (ty := .array .int) (C := RX1) (T := TX1) (N := 3) hx hb hts inWX1 tyX1 tyX1_ok nmX1 hown hK hP hD hS 0 rfl rfl 1 (by decide) (hts (Cond.fieldLink RX1 15 "KindWords$Shares" "left" "[I") (List.mem_cons_of_mem _ tw_1_150)) (fun _ h9 => h9) rfl hin rfl (by decide +kernel) rfl rfl (Nat.le_of_ble_eq_true rfl) dX1_init_15 (fun H locs hP hD hS => ?_)
  have hP : va_P D vwCl [(h0, .inr (1, [.ref q1, .ref q2, .int 0])), (q1, .inl (a1, 4, .inl (fun _ => 0))), (q2, .inl (a2, 4, .inl (fun _ => 0)))] H := hP
  have hD : va_D A [(h0, .inr (1, [.ref q1, .ref q2, .int 0])), (q1, .inl (a1, 4, .inl (fun _ => 0))), (q2, .inl (a2, 4, .inl (fun _ => 0)))] := hD
  have hK : va_K D vwCl [(a1, .int), (a2, .int)] s := hK
  obtain rfl : a1 = a2 := K_un hK 0 1 rfl rfl
  exact W.vret hx hb hr (fun t ht hW => ⟨⟨(), rfl, trivial, q1, q2, a1, by rw [ht]; exact hP, va_K.moved hW.alike (hK.sub [0] rfl), hD⟩, hS.F ht⟩) hS.2.2 dX1_init_18
def atX4 (D : va_G) (A : Nat → Prop) (h0 : Nat) (t : State) : Prop := ∃ (q : Nat → Nat) (cv cc : ClassId), va_P D vwCl ((h0, .inr (4, [.ref (q 0), .int 0, .int 0])) :: twL q cv cc) t.heap ∧ va_K D vwCl (tyT cv cc) t ∧ va_D A ((h0, .inr (4, [.ref (q 0), .int 0, .int 0])) :: twL q cv cc)
set_option maxHeartbeats 4000000 in
set_option maxRecDepth 100000 in
theorem c_X4_init (l : Launch) (D : va_G) (h0 sz : Nat) : Met l yX4_init (wY yX4_init cX4_init 1 none) ({ frames := 3, cells := 10, slots := 49, locals := 53 }) (va_Pc [.ref h0] (fun U => U.heap.size = sz ∧ va_P D vwCl [(h0, .inr (4, [.null, .int 0, .int 0]))] U.heap ∧ va_K D vwCl [] U ∧ va_D (fun _ => True) [(h0, .inr (4, [.null, .int 0, .int 0]))] ∧ xN U)) (va_Qv (fun _ : Unit => True) (fun _ t => atX4 D (va_A [(h0, .inr (4, [.null, .int 0, .int 0]))] sz) h0 t) (va_A [(h0, .inr (4, [.null, .int 0, .int 0]))] sz)) 10 49 (va_A [(h0, .inr (4, [.null, .int 0, .int 0]))] sz) := by
  refine Met.ofW (cc := cX4_init) (maxL := 1) (ret := none) (by decide) rfl ?_
  intro p e s m args below meth c s₁ B hml hv
  obtain ⟨rfl, hsz, hP, hK, hD0, hN⟩ := hv
  have hx := B.exec
  have hb := B.bytes
  have hr := B.returns
  have hts := atoms_spec (ws := wY yX4_init cX4_init 1 none) B.pre
  have hown : s.vm.findClass RX4 = some m.cls := findClass_of_methodNamed B.named
  have hlocks := B.notSynchronized
  have hin : meth.name = "<init>" := (name_of_methodNamed B.named B.method).1
  subst hsz
  have hD := hD0.self (sz := s.heap.size)
  generalize hAe : va_A [(h0, .inr (4, [.null, .int 0, .int 0]))] s.heap.size = A at hD ⊢
  have hA : ∀ q : Nat, s.heap.size ≤ q → A q := fun q h => by rw [← hAe]; exact Or.inr h
  have hS : va_S A s.heap s.heap [] := va_S.rf
  have hP : va_P D vwCl [(h0, .inr (4, [.null, .int 0, .int 0]))] s.heap := hP
  have hl := lv_entry ([.ref h0]) (n := 1) (Nat.le_of_ble_eq_true rfl)
  rw [lg_entry_eq]
  generalize (lg_sl ([.ref h0]) ++ List.replicate (1 - (lg_sl ([.ref h0])).length) Slot.unset).toArray = ls at hl ⊢
  have hl : lv_has ls 1 [(0, .ref h0)] := hl
  refine lv_aload_n hx hb dX4_init_0 rfl (lv_at hl 0 rfl) ?_
  refine W.objInit hx hb hown (hts (Cond.methodLink RX4 3 objectInit) (List.mem_cons_of_mem _ tw_1_127)) (hts (Cond.instanceMethod objectInit) (List.mem_cons_of_mem _ tw_1_20)) (hts (Cond.code objectInit object_method_1_code 1 none) (List.mem_cons_of_mem _ tw_1_21)) rfl (by rw [hml]; exact hl.1) rfl dX4_init_1 (Nat.le_of_ble_eq_true rfl) (Nat.le_of_ble_eq_true rfl) ?_
  refine W.eq (g2 := F0 m 4 ls []) rfl ?_
  refine lv_aload_n hx hb dX4_init_4 rfl (lv_at hl 0 rfl) ?_
  refine va_new (ci := 2) (fs := [.null, .null, .int 0, .int 0, .int 0, .int 0]) (C := RX2) (T := TX2) (N := 6) hx hb hts inWX2 tyX2 tyX2_ok hown (hts (Cond.classLink RX4 9 "KindWords$Town") (List.mem_cons_of_mem _ tw_1_128)) (hts (Cond.instantiable RX2 6) (List.mem_cons_of_mem _ tw_1_23)) (hts (Cond.initialized RX2) (List.mem_cons_of_mem _ tw_1_2)) hK hP hD hS hA rfl (fun j hj => by rcases (show j = 0 ∨ j = 1 ∨ j = 2 ∨ j = 3 ∨ j = 4 ∨ j = 5 by omega) with rfl | rfl | rfl | rfl | rfl | rfl <;> rfl) (Nat.le_of_ble_eq_true rfl) (Nat.le_of_ble_eq_true rfl) dX4_init_5 (fun q1 H hP hD hS => ?_)
  have hP : va_P D vwCl [(h0, .inr (4, [.null, .int 0, .int 0])), (q1, .inr (2, [.null, .null, .int 0, .int 0, .int 0, .int 0]))] H := hP
  have hD : va_D A [(h0, .inr (4, [.null, .int 0, .int 0])), (q1, .inr (2, [.null, .null, .int 0, .int 0, .int 0, .int 0]))] := hD
  have hK : va_K D vwCl [] s := hK
  refine W.widen (k := 1) (n := 6) (by omega) (by omega) ?_
  refine lv_dup hx hb dX4_init_8 rfl ?_
  have hPc := hP.sub (ws' := [(q1, .inr (2, [.null, .null, .int 0, .int 0, .int 0, .int 0]))]) [1] rfl
  have hDc := hD.sub (ws' := [(q1, .inr (2, [.null, .null, .int 0, .int 0, .int 0, .int 0]))]) [1] (by decide) rfl
  have hKc := hK.sub (tys' := []) [] rfl
  have hFc := va_free (wc := [(q1, .inr (2, [.null, .null, .int 0, .int 0, .int 0, .int 0]))]) hD hS hA [1] rfl
  refine va_callv (va_runI (As := []) (rest := [.ref q1, .ref h0]) ⟨hx, hb, hml, hown, hts⟩ (c_X2_init l D q1 H.size) (cwI 0 hts (wY_good tw_1_26) rfl rfl rfl (hts (Cond.initialized RX2) (List.mem_cons_of_mem _ tw_1_2)) (hts (Cond.methodLink RX4 11 yX2_init) (List.mem_cons_of_mem _ tw_1_129)) (hts (Cond.instanceMethod yX2_init) (List.mem_cons_of_mem _ tw_1_25)) rfl ⟨by decide, by decide, by decide +kernel⟩ ⟨Nat.le_of_ble_eq_true rfl, Nat.le_of_ble_eq_true rfl⟩) ⟨fun a U g mk q => by obtain ⟨q0, q1, qP, qK, qD, qN⟩ := q; exact ⟨q0, q1, qP, va_K.moved (u := U) (U := U.calling g mk a) (Vm.Alike.refl U.vm) qK, qD, xN_same rfl qN⟩, fun U hU hW => ⟨rfl, by rw [hU], by rw [hU]; exact hPc, va_K.moved hW.alike hKc, hDc.weaken (fun _ _ _ _ => trivial), xN_warm hW hN⟩⟩ rfl rfl hl.1 rfl (lv_room (Nat.le_of_ble_eq_true rfl)) dX4_init_9 ⟨Nat.le_of_ble_eq_true rfl, Nat.le_of_ble_eq_true rfl⟩) hS (fun q _ h => hFc q h) hFc (fun u t H1 locs ht hvm hw hB hz1 hk1 hS => ?_)
  obtain ⟨t2, b2, d2, e2, hP1, hK1, hD1⟩ := hB
  subst e2
  rw [ht] at hP1
  have hK1 := va_K.moved hvm.symm hK1
  obtain ⟨hP, hD⟩ := va_join (wr := [(h0, .inr (4, [.null, .int 0, .int 0]))]) (w1 := [((t2 0), .inr (2, [.ref (t2 1), .ref (t2 2), .int 0, .int 0, .int 0, .int 0])), (t2 1, .inl (b2, 3, .inr (.inr (.inr (.inr (fun j => some (t2 (3 + j)))))))), (t2 2, .inl (d2, 4, .inr (.inr (.inr (.inr (fun j => some (t2 (6 + j)))))))), (t2 3, .inr (3, [.int 0, .int 0, .int 0, .int 0])), (t2 4, .inr (3, [.int 0, .int 0, .int 0, .int 0])), (t2 5, .inr (3, [.int 0, .int 0, .int 0, .int 0])), (t2 6, .inr (0, [.int 0, .int 0, .int 0, .int 0, .int 0, .int 0])), (t2 7, .inr (0, [.int 0, .int 0, .int 0, .int 0, .int 0, .int 0])), (t2 8, .inr (0, [.int 0, .int 0, .int 0, .int 0, .int 0, .int 0])), (t2 9, .inr (0, [.int 0, .int 0, .int 0, .int 0, .int 0, .int 0]))]) hP hD [1] [0] rfl rfl (by decide) (by decide) hk1 hFc hP1 hD1
  have hK := (hK.sub (tys' := []) [] rfl).app hK1
  generalize H1 = H at hP hS ⊢
  have hP : va_P D vwCl [(h0, .inr (4, [.null, .int 0, .int 0])), ((t2 0), .inr (2, [.ref (t2 1), .ref (t2 2), .int 0, .int 0, .int 0, .int 0])), (t2 1, .inl (b2, 3, .inr (.inr (.inr (.inr (fun j => some (t2 (3 + j)))))))), (t2 2, .inl (d2, 4, .inr (.inr (.inr (.inr (fun j => some (t2 (6 + j)))))))), (t2 3, .inr (3, [.int 0, .int 0, .int 0, .int 0])), (t2 4, .inr (3, [.int 0, .int 0, .int 0, .int 0])), (t2 5, .inr (3, [.int 0, .int 0, .int 0, .int 0])), (t2 6, .inr (0, [.int 0, .int 0, .int 0, .int 0, .int 0, .int 0])), (t2 7, .inr (0, [.int 0, .int 0, .int 0, .int 0, .int 0, .int 0])), (t2 8, .inr (0, [.int 0, .int 0, .int 0, .int 0, .int 0, .int 0])), (t2 9, .inr (0, [.int 0, .int 0, .int 0, .int 0, .int 0, .int 0]))] H := hP
  have hD : va_D A [(h0, .inr (4, [.null, .int 0, .int 0])), ((t2 0), .inr (2, [.ref (t2 1), .ref (t2 2), .int 0, .int 0, .int 0, .int 0])), (t2 1, .inl (b2, 3, .inr (.inr (.inr (.inr (fun j => some (t2 (3 + j)))))))), (t2 2, .inl (d2, 4, .inr (.inr (.inr (.inr (fun j => some (t2 (6 + j)))))))), (t2 3, .inr (3, [.int 0, .int 0, .int 0, .int 0])), (t2 4, .inr (3, [.int 0, .int 0, .int 0, .int 0])), (t2 5, .inr (3, [.int 0, .int 0, .int 0, .int 0])), (t2 6, .inr (0, [.int 0, .int 0, .int 0, .int 0, .int 0, .int 0])), (t2 7, .inr (0, [.int 0, .int 0, .int 0, .int 0, .int 0, .int 0])), (t2 8, .inr (0, [.int 0, .int 0, .int 0, .int 0, .int 0, .int 0])), (t2 9, .inr (0, [.int 0, .int 0, .int 0, .int 0, .int 0, .int 0]))] := hD
  have hK : va_K D vwCl [(b2, .object "KindWords$Victim"), (d2, .object "KindWords$Convict")] s := hK
  refine W.widen (k := 10) (n := 49) (by omega) (by omega) ?_
  refine va_putF (D := D) (ci := 4) (v := .ref (t2 0)) (ty := .object "KindWords$Town") (C := RX4) (T := TX4) (N := 3) hx hb hts inWX4 tyX4 tyX4_ok nmX4 hown hK hP hD hS 0 rfl rfl 0 (by decide) (hts (Cond.fieldLink RX4 12 "KindWords$Weeks" "town" "LKindWords$Town;") (List.mem_cons_of_mem _ tw_1_130)) (fun _ h9 => h9) rfl hin rfl (by decide +kernel) rfl rfl (Nat.le_of_ble_eq_true rfl) dX4_init_12 (fun H locs hP hD hS => ?_)
  have hP : va_P D vwCl [(h0, .inr (4, [.ref (t2 0), .int 0, .int 0])), ((t2 0), .inr (2, [.ref (t2 1), .ref (t2 2), .int 0, .int 0, .int 0, .int 0])), (t2 1, .inl (b2, 3, .inr (.inr (.inr (.inr (fun j => some (t2 (3 + j)))))))), (t2 2, .inl (d2, 4, .inr (.inr (.inr (.inr (fun j => some (t2 (6 + j)))))))), (t2 3, .inr (3, [.int 0, .int 0, .int 0, .int 0])), (t2 4, .inr (3, [.int 0, .int 0, .int 0, .int 0])), (t2 5, .inr (3, [.int 0, .int 0, .int 0, .int 0])), (t2 6, .inr (0, [.int 0, .int 0, .int 0, .int 0, .int 0, .int 0])), (t2 7, .inr (0, [.int 0, .int 0, .int 0, .int 0, .int 0, .int 0])), (t2 8, .inr (0, [.int 0, .int 0, .int 0, .int 0, .int 0, .int 0])), (t2 9, .inr (0, [.int 0, .int 0, .int 0, .int 0, .int 0, .int 0]))] H := hP
  have hD : va_D A [(h0, .inr (4, [.ref (t2 0), .int 0, .int 0])), ((t2 0), .inr (2, [.ref (t2 1), .ref (t2 2), .int 0, .int 0, .int 0, .int 0])), (t2 1, .inl (b2, 3, .inr (.inr (.inr (.inr (fun j => some (t2 (3 + j)))))))), (t2 2, .inl (d2, 4, .inr (.inr (.inr (.inr (fun j => some (t2 (6 + j)))))))), (t2 3, .inr (3, [.int 0, .int 0, .int 0, .int 0])), (t2 4, .inr (3, [.int 0, .int 0, .int 0, .int 0])), (t2 5, .inr (3, [.int 0, .int 0, .int 0, .int 0])), (t2 6, .inr (0, [.int 0, .int 0, .int 0, .int 0, .int 0, .int 0])), (t2 7, .inr (0, [.int 0, .int 0, .int 0, .int 0, .int 0, .int 0])), (t2 8, .inr (0, [.int 0, .int 0, .int 0, .int 0, .int 0, .int 0])), (t2 9, .inr (0, [.int 0, .int 0, .int 0, .int 0, .int 0, .int 0]))] := hD
  have hK : va_K D vwCl [(b2, .object "KindWords$Victim"), (d2, .object "KindWords$Convict")] s := hK
  exact W.vret hx hb hr (fun t ht hW => ⟨⟨(), rfl, trivial, t2, b2, d2, by rw [ht]; exact hP, va_K.moved hW.alike hK, hD⟩, hS.F ht⟩) hS.2.2 dX4_init_15
