def rmX0_mayEachDay : Room := { frames := 0, cells := 0, slots := 0, locals := 0 }
theorem hd_X0_mayEachDay : yX0_mayEachDay.cls = RX0 ∧ yX0_mayEachDay.cls ≠ "java/lang/invoke/MethodHandle" ∧ yX0_mayEachDay.cls ≠ "java/lang/invoke/VarHandle" ∧ (parseMethodDescriptor yX0_mayEachDay.desc).map (fun d => d.parameters.length) = some 0 := ⟨rfl, by decide, by decide, by decide +kernel⟩
def f_X0_mayEachDay (F : Nat) (k0 : Nat) (M : Mem) : Option (Int32 × Mem) := if (M.1 k0 0) = (4 : Int32) then (some ((3 : Int32), M)) else (if (M.1 k0 0) = (1 : Int32) then (some ((2 : Int32), M)) else (some ((1 : Int32), M)))
set_option maxRecDepth 100000 in
set_option maxHeartbeats 4000000 in
theorem c_X0_mayEachDay {G : KyG} {cy : Nat → ClassId} (hG : IsC G cy) (F : Nat)  (k0 : Nat) (M : Mem) (hk0 : isCv k0) : Ct G yX0_mayEachDay (wY yX0_mayEachDay cX0_mayEachDay 1 (some .int)) rmX0_mayEachDay rI [.ref (gA G k0)] (f_X0_mayEachDay F k0 M) M := by
  refine Ct_of cX0_mayEachDay 1 (some .int) RX0 hG.2.2.2.1 (by decide) rfl rfl (Nat.le_of_ble_eq_true rfl) rfl (fun E C => ?_)
  unfold f_X0_mayEachDay
  refine ky_aload_n C dX0_mayEachDay_0 0 rfl ?_
  refine ky_get C (ltC hG hk0) (ceC hG hk0) rfl inWX0 0 (by decide) (wY_in tw_1_61) rfl rfl dX0_mayEachDay_1 ?_
  refine ky_iconst C (4 : Int32) dX0_mayEachDay_4 (by decide) ?_
  refine ky_icmp_ne C 10 dX0_mayEachDay_5 (by decide) ?_ ?_
  · refine ky_iconst C (3 : Int32) dX0_mayEachDay_8 (by decide) ?_
    exact ky_iret C dX0_mayEachDay_9
  · refine ky_aload_n C dX0_mayEachDay_10 0 rfl ?_
    refine ky_get C (ltC hG hk0) (ceC hG hk0) rfl inWX0 0 (by decide) (wY_in tw_1_61) rfl rfl dX0_mayEachDay_11 ?_
    refine ky_iconst C (1 : Int32) dX0_mayEachDay_14 (by decide) ?_
    refine ky_icmp_ne C 22 dX0_mayEachDay_15 (by decide) ?_ ?_
    · refine ky_iconst C (2 : Int32) dX0_mayEachDay_18 (by decide) ?_
      refine ky_goto C 23 dX0_mayEachDay_19 (by decide) ?_
      exact ky_iret C dX0_mayEachDay_23
    · refine ky_iconst C (1 : Int32) dX0_mayEachDay_22 (by decide) ?_
      exact ky_iret C dX0_mayEachDay_23
def rmX0_begin : Room := { frames := 1, cells := 0, slots := 0, locals := 20 }
theorem hd_X0_begin : yX0_begin.cls = RX0 ∧ yX0_begin.cls ≠ "java/lang/invoke/MethodHandle" ∧ yX0_begin.cls ≠ "java/lang/invoke/VarHandle" ∧ (parseMethodDescriptor yX0_begin.desc).map (fun d => d.parameters.length) = some 4 := ⟨rfl, by decide, by decide, by decide +kernel⟩
def f_X0_begin (F : Nat) (k0 : Nat) (a1 : Int32) (a2 : Int32) (a3 : Int32) (a4 : Int32) (M : Mem) : Option (Unit × Mem) := nm (u2 M k0 0 a1) (fun M1 => nm (u2 M1 k0 1 a2) (fun M2 => nm (u2 M2 k0 2 a3) (fun M3 => nm (u2 M3 k0 3 a4) (fun M4 => bd (f_X0_mayEachDay F k0 M4) (fun r5 M6 => nm (u2 M6 k0 4 r5) (fun M7 => nm (u2 M7 k0 5 (0 : Int32)) (fun M8 => some ((), M8))))))))
set_option maxRecDepth 100000 in
set_option maxHeartbeats 4000000 in
theorem c_X0_begin {G : KyG} {cy : Nat → ClassId} (hG : IsC G cy) (F : Nat)  (k0 : Nat) (a1 : Int32) (a2 : Int32) (a3 : Int32) (a4 : Int32) (M : Mem) (hk0 : isCv k0) : Ct G yX0_begin (wY yX0_begin cX0_begin 5 none) rmX0_begin rV [.ref (gA G k0), .int a1, .int a2, .int a3, .int a4] (f_X0_begin F k0 a1 a2 a3 a4 M) M := by
  refine Ct_of cX0_begin 5 none RX0 hG.2.2.2.1 (by decide) rfl rfl (Nat.le_of_ble_eq_true rfl) rfl (fun E C => ?_)
  unfold f_X0_begin
  refine ky_aload_n C dX0_begin_0 0 rfl ?_
  refine ky_iload_n C dX0_begin_1 1 rfl ?_
  refine ky_put C (ltC hG hk0) (ceC hG hk0) rfl inWX0 tyX0_ok nmX0 0 (by decide) (wY_in tw_1_61) ⟨rfl, rfl⟩ (tyX0_ok 0 (by decide)) rfl rfl (Nat.le_of_ble_eq_true rfl) rfl dX0_begin_2 (fun M1 => ?_)
  refine ky_aload_n C dX0_begin_5 0 rfl ?_
  refine ky_iload_n C dX0_begin_6 2 rfl ?_
  refine ky_put C (ltC hG hk0) (ceC hG hk0) rfl inWX0 tyX0_ok nmX0 1 (by decide) (wY_in tw_1_64) ⟨rfl, rfl⟩ (tyX0_ok 1 (by decide)) rfl rfl (Nat.le_of_ble_eq_true rfl) rfl dX0_begin_7 (fun M2 => ?_)
  refine ky_aload_n C dX0_begin_10 0 rfl ?_
  refine ky_iload_n C dX0_begin_11 3 rfl ?_
  refine ky_put C (ltC hG hk0) (ceC hG hk0) rfl inWX0 tyX0_ok nmX0 2 (by decide) (wY_in tw_1_68) ⟨rfl, rfl⟩ (tyX0_ok 2 (by decide)) rfl rfl (Nat.le_of_ble_eq_true rfl) rfl dX0_begin_12 (fun M3 => ?_)
  refine ky_aload_n C dX0_begin_15 0 rfl ?_
  refine ky_iload C dX0_begin_16 4 rfl ?_
  refine ky_put C (ltC hG hk0) (ceC hG hk0) rfl inWX0 tyX0_ok nmX0 3 (by decide) (wY_in tw_1_71) ⟨rfl, rfl⟩ (tyX0_ok 3 (by decide)) rfl rfl (Nat.le_of_ble_eq_true rfl) rfl dX0_begin_18 (fun M4 => ?_)
  refine ky_aload_n C dX0_begin_21 0 rfl ?_
  refine ky_aload_n C dX0_begin_22 0 rfl ?_
  refine ky_callVi C (c_X0_mayEachDay hG F k0 M4 hk0) (ltC hG hk0) (ceC hG hk0) rfl (wY_goodV tw_2_71 tw_2_72 tw_2_73 tw_1_4 tw_2_74) hd_X0_mayEachDay ⟨rfl, rfl, by decide, by decide⟩ rfl rfl (Nat.le_of_ble_eq_true rfl) dX0_begin_23 (fun r5 M6 => ?_)
  refine ky_put C (ltC hG hk0) (ceC hG hk0) rfl inWX0 tyX0_ok nmX0 4 (by decide) (wY_in tw_1_74) ⟨rfl, rfl⟩ (tyX0_ok 4 (by decide)) rfl rfl (Nat.le_of_ble_eq_true rfl) rfl dX0_begin_26 (fun M7 => ?_)
  refine ky_aload_n C dX0_begin_29 0 rfl ?_
  refine ky_iconst C (0 : Int32) dX0_begin_30 (by decide) ?_
  refine ky_put C (ltC hG hk0) (ceC hG hk0) rfl inWX0 tyX0_ok nmX0 5 (by decide) (wY_in tw_1_78) ⟨rfl, rfl⟩ (tyX0_ok 5 (by decide)) rfl rfl (Nat.le_of_ble_eq_true rfl) rfl dX0_begin_31 (fun M8 => ?_)
  exact ky_vret C dX0_begin_34
def rmX0_copy : Room := { frames := 0, cells := 0, slots := 0, locals := 0 }
theorem hd_X0_copy : yX0_copy.cls = RX0 ∧ yX0_copy.cls ≠ "java/lang/invoke/MethodHandle" ∧ yX0_copy.cls ≠ "java/lang/invoke/VarHandle" ∧ (parseMethodDescriptor yX0_copy.desc).map (fun d => d.parameters.length) = some 1 := ⟨rfl, by decide, by decide, by decide +kernel⟩
def f_X0_copy (F : Nat) (k0 : Nat) (k1 : Nat) (M : Mem) : Option (Unit × Mem) := nm (M.1 k1 0) (fun x1 => nm (u2 M k0 0 x1) (fun M2 => nm (M2.1 k1 1) (fun x3 => nm (u2 M2 k0 1 x3) (fun M4 => nm (M4.1 k1 2) (fun x5 => nm (u2 M4 k0 2 x5) (fun M6 => nm (M6.1 k1 3) (fun x7 => nm (u2 M6 k0 3 x7) (fun M8 => nm (M8.1 k1 4) (fun x9 => nm (u2 M8 k0 4 x9) (fun M10 => nm (M10.1 k1 5) (fun x11 => nm (u2 M10 k0 5 x11) (fun M12 => some ((), M12)))))))))))))
set_option maxRecDepth 100000 in
set_option maxHeartbeats 4000000 in
theorem c_X0_copy {G : KyG} {cy : Nat → ClassId} (hG : IsC G cy) (F : Nat)  (k0 : Nat) (k1 : Nat) (M : Mem) (hk0 : isCv k0) (hk1 : isCv k1) : Ct G yX0_copy (wY yX0_copy cX0_copy 2 none) rmX0_copy rV [.ref (gA G k0), .ref (gA G k1)] (f_X0_copy F k0 k1 M) M := by
  refine Ct_of cX0_copy 2 none RX0 hG.2.2.2.1 (by decide) rfl rfl (Nat.le_of_ble_eq_true rfl) rfl (fun E C => ?_)
  unfold f_X0_copy
  refine ky_aload_n C dX0_copy_0 0 rfl ?_
  refine ky_aload_n C dX0_copy_1 1 rfl ?_
  refine ky_get C (ltC hG hk1) (ceC hG hk1) rfl inWX0 0 (by decide) (wY_in tw_1_61) rfl rfl dX0_copy_2 ?_
  refine ky_nmi (fun x1 => ?_)
  refine ky_put C (ltC hG hk0) (ceC hG hk0) rfl inWX0 tyX0_ok nmX0 0 (by decide) (wY_in tw_1_61) ⟨rfl, rfl⟩ (tyX0_ok 0 (by decide)) rfl rfl (Nat.le_of_ble_eq_true rfl) rfl dX0_copy_5 (fun M2 => ?_)
  refine ky_aload_n C dX0_copy_8 0 rfl ?_
  refine ky_aload_n C dX0_copy_9 1 rfl ?_
  refine ky_get C (ltC hG hk1) (ceC hG hk1) rfl inWX0 1 (by decide) (wY_in tw_1_64) rfl rfl dX0_copy_10 ?_
  refine ky_nmi (fun x3 => ?_)
  refine ky_put C (ltC hG hk0) (ceC hG hk0) rfl inWX0 tyX0_ok nmX0 1 (by decide) (wY_in tw_1_64) ⟨rfl, rfl⟩ (tyX0_ok 1 (by decide)) rfl rfl (Nat.le_of_ble_eq_true rfl) rfl dX0_copy_13 (fun M4 => ?_)
  refine ky_aload_n C dX0_copy_16 0 rfl ?_
  refine ky_aload_n C dX0_copy_17 1 rfl ?_
  refine ky_get C (ltC hG hk1) (ceC hG hk1) rfl inWX0 2 (by decide) (wY_in tw_1_68) rfl rfl dX0_copy_18 ?_
  refine ky_nmi (fun x5 => ?_)
  refine ky_put C (ltC hG hk0) (ceC hG hk0) rfl inWX0 tyX0_ok nmX0 2 (by decide) (wY_in tw_1_68) ⟨rfl, rfl⟩ (tyX0_ok 2 (by decide)) rfl rfl (Nat.le_of_ble_eq_true rfl) rfl dX0_copy_21 (fun M6 => ?_)
  refine ky_aload_n C dX0_copy_24 0 rfl ?_
  refine ky_aload_n C dX0_copy_25 1 rfl ?_
  refine ky_get C (ltC hG hk1) (ceC hG hk1) rfl inWX0 3 (by decide) (wY_in tw_1_71) rfl rfl dX0_copy_26 ?_
  refine ky_nmi (fun x7 => ?_)
  refine ky_put C (ltC hG hk0) (ceC hG hk0) rfl inWX0 tyX0_ok nmX0 3 (by decide) (wY_in tw_1_71) ⟨rfl, rfl⟩ (tyX0_ok 3 (by decide)) rfl rfl (Nat.le_of_ble_eq_true rfl) rfl dX0_copy_29 (fun M8 => ?_)
  refine ky_aload_n C dX0_copy_32 0 rfl ?_
  refine ky_aload_n C dX0_copy_33 1 rfl ?_
  refine ky_get C (ltC hG hk1) (ceC hG hk1) rfl inWX0 4 (by decide) (wY_in tw_1_74) rfl rfl dX0_copy_34 ?_
  refine ky_nmi (fun x9 => ?_)
  refine ky_put C (ltC hG hk0) (ceC hG hk0) rfl inWX0 tyX0_ok nmX0 4 (by decide) (wY_in tw_1_74) ⟨rfl, rfl⟩ (tyX0_ok 4 (by decide)) rfl rfl (Nat.le_of_ble_eq_true rfl) rfl dX0_copy_37 (fun M10 => ?_)
  refine ky_aload_n C dX0_copy_40 0 rfl ?_
  refine ky_aload_n C dX0_copy_41 1 rfl ?_
  refine ky_get C (ltC hG hk1) (ceC hG hk1) rfl inWX0 5 (by decide) (wY_in tw_1_78) rfl rfl dX0_copy_42 ?_
  refine ky_nmi (fun x11 => ?_)
  refine ky_put C (ltC hG hk0) (ceC hG hk0) rfl inWX0 tyX0_ok nmX0 5 (by decide) (wY_in tw_1_78) ⟨rfl, rfl⟩ (tyX0_ok 5 (by decide)) rfl rfl (Nat.le_of_ble_eq_true rfl) rfl dX0_copy_45 (fun M12 => ?_)
  exact ky_vret C dX0_copy_48
def rmX0_hasPaid : Room := { frames := 0, cells := 0, slots := 0, locals := 0 }
theorem hd_X0_hasPaid : yX0_hasPaid.cls = RX0 ∧ yX0_hasPaid.cls ≠ "java/lang/invoke/MethodHandle" ∧ yX0_hasPaid.cls ≠ "java/lang/invoke/VarHandle" ∧ (parseMethodDescriptor yX0_hasPaid.desc).map (fun d => d.parameters.length) = some 0 := ⟨rfl, by decide, by decide, by decide +kernel⟩
def f_X0_hasPaid (F : Nat) (k0 : Nat) (M : Mem) : Option (Int32 × Mem) := if (M.1 k0 2) = 0 then (some ((1 : Int32), M)) else (some ((0 : Int32), M))
set_option maxRecDepth 100000 in
set_option maxHeartbeats 4000000 in
theorem c_X0_hasPaid {G : KyG} {cy : Nat → ClassId} (hG : IsC G cy) (F : Nat)  (k0 : Nat) (M : Mem) (hk0 : isCv k0) : Ct G yX0_hasPaid (wY yX0_hasPaid cX0_hasPaid 1 (some .boolean)) rmX0_hasPaid rI [.ref (gA G k0)] (f_X0_hasPaid F k0 M) M := by
  refine Ct_of cX0_hasPaid 1 (some .boolean) RX0 hG.2.2.2.1 (by decide) rfl rfl (Nat.le_of_ble_eq_true rfl) rfl (fun E C => ?_)
  unfold f_X0_hasPaid
  refine ky_aload_n C dX0_hasPaid_0 0 rfl ?_
  refine ky_get C (ltC hG hk0) (ceC hG hk0) rfl inWX0 2 (by decide) (wY_in tw_1_68) rfl rfl dX0_hasPaid_1 ?_
  refine ky_if_ne C 11 dX0_hasPaid_4 (by decide) ?_ ?_
  · refine ky_iconst C (1 : Int32) dX0_hasPaid_7 (by decide) ?_
    refine ky_goto C 12 dX0_hasPaid_8 (by decide) ?_
    exact ky_zret C (by decide) dX0_hasPaid_12
  · refine ky_iconst C (0 : Int32) dX0_hasPaid_11 (by decide) ?_
    exact ky_zret C (by decide) dX0_hasPaid_12
def rmX0_isA : Room := { frames := 0, cells := 0, slots := 0, locals := 0 }
theorem hd_X0_isA : yX0_isA.cls = RX0 ∧ yX0_isA.cls ≠ "java/lang/invoke/MethodHandle" ∧ yX0_isA.cls ≠ "java/lang/invoke/VarHandle" ∧ (parseMethodDescriptor yX0_isA.desc).map (fun d => d.parameters.length) = some 1 := ⟨rfl, by decide, by decide, by decide +kernel⟩
def f_X0_isA (F : Nat) (k0 : Nat) (a1 : Int32) (M : Mem) : Option (Int32 × Mem) := if a1 = 0 then (some ((1 : Int32), M)) else (if a1 = (M.1 k0 0) then (some ((1 : Int32), M)) else (if a1 = (1 : Int32) then (if (M.1 k0 0) = (4 : Int32) then (some ((1 : Int32), M)) else (some ((0 : Int32), M))) else (some ((0 : Int32), M))))
set_option maxRecDepth 100000 in
set_option maxHeartbeats 4000000 in
theorem c_X0_isA {G : KyG} {cy : Nat → ClassId} (hG : IsC G cy) (F : Nat)  (k0 : Nat) (a1 : Int32) (M : Mem) (hk0 : isCv k0) : Ct G yX0_isA (wY yX0_isA cX0_isA 2 (some .boolean)) rmX0_isA rI [.ref (gA G k0), .int a1] (f_X0_isA F k0 a1 M) M := by
  refine Ct_of cX0_isA 2 (some .boolean) RX0 hG.2.2.2.1 (by decide) rfl rfl (Nat.le_of_ble_eq_true rfl) rfl (fun E C => ?_)
  unfold f_X0_isA
  refine ky_iload_n C dX0_isA_0 1 rfl ?_
  refine ky_if_eq C 25 dX0_isA_1 (by decide) ?_ ?_
  · refine ky_iconst C (1 : Int32) dX0_isA_25 (by decide) ?_
    refine ky_goto C 30 dX0_isA_26 (by decide) ?_
    exact ky_zret C (by decide) dX0_isA_30
  · refine ky_iload_n C dX0_isA_4 1 rfl ?_
    refine ky_aload_n C dX0_isA_5 0 rfl ?_
    refine ky_get C (ltC hG hk0) (ceC hG hk0) rfl inWX0 0 (by decide) (wY_in tw_1_61) rfl rfl dX0_isA_6 ?_
    refine ky_icmp_eq C 25 dX0_isA_9 (by decide) ?_ ?_
    · refine ky_iconst C (1 : Int32) dX0_isA_25 (by decide) ?_
      refine ky_goto C 30 dX0_isA_26 (by decide) ?_
      exact ky_zret C (by decide) dX0_isA_30
    · refine ky_iload_n C dX0_isA_12 1 rfl ?_
      refine ky_iconst C (1 : Int32) dX0_isA_13 (by decide) ?_
      refine ky_icmp_ne C 29 dX0_isA_14 (by decide) ?_ ?_
      · refine ky_aload_n C dX0_isA_17 0 rfl ?_
        refine ky_get C (ltC hG hk0) (ceC hG hk0) rfl inWX0 0 (by decide) (wY_in tw_1_61) rfl rfl dX0_isA_18 ?_
        refine ky_iconst C (4 : Int32) dX0_isA_21 (by decide) ?_
        refine ky_icmp_ne C 29 dX0_isA_22 (by decide) ?_ ?_
        · refine ky_iconst C (1 : Int32) dX0_isA_25 (by decide) ?_
          refine ky_goto C 30 dX0_isA_26 (by decide) ?_
          exact ky_zret C (by decide) dX0_isA_30
        · refine ky_iconst C (0 : Int32) dX0_isA_29 (by decide) ?_
          exact ky_zret C (by decide) dX0_isA_30
      · refine ky_iconst C (0 : Int32) dX0_isA_29 (by decide) ?_
        exact ky_zret C (by decide) dX0_isA_30
def rmX0_knowsOf : Room := { frames := 0, cells := 0, slots := 0, locals := 0 }
theorem hd_X0_knowsOf : yX0_knowsOf.cls = RX0 ∧ yX0_knowsOf.cls ≠ "java/lang/invoke/MethodHandle" ∧ yX0_knowsOf.cls ≠ "java/lang/invoke/VarHandle" ∧ (parseMethodDescriptor yX0_knowsOf.desc).map (fun d => d.parameters.length) = some 1 := ⟨rfl, by decide, by decide, by decide +kernel⟩
def f_X0_knowsOf (F : Nat) (k0 : Nat) (a1 : Int32) (M : Mem) : Option (Int32 × Mem) := if ((M.1 k0 3) &&& ((1 : Int32) <<< (a1 &&& 31))) = 0 then (some ((0 : Int32), M)) else (some ((1 : Int32), M))
set_option maxRecDepth 100000 in
set_option maxHeartbeats 4000000 in
theorem c_X0_knowsOf {G : KyG} {cy : Nat → ClassId} (hG : IsC G cy) (F : Nat)  (k0 : Nat) (a1 : Int32) (M : Mem) (hk0 : isCv k0) : Ct G yX0_knowsOf (wY yX0_knowsOf cX0_knowsOf 2 (some .boolean)) rmX0_knowsOf rI [.ref (gA G k0), .int a1] (f_X0_knowsOf F k0 a1 M) M := by
  refine Ct_of cX0_knowsOf 2 (some .boolean) RX0 hG.2.2.2.1 (by decide) rfl rfl (Nat.le_of_ble_eq_true rfl) rfl (fun E C => ?_)
  unfold f_X0_knowsOf
  refine ky_aload_n C dX0_knowsOf_0 0 rfl ?_
  refine ky_get C (ltC hG hk0) (ceC hG hk0) rfl inWX0 3 (by decide) (wY_in tw_1_71) rfl rfl dX0_knowsOf_1 ?_
  refine ky_iconst C (1 : Int32) dX0_knowsOf_4 (by decide) ?_
  refine ky_iload_n C dX0_knowsOf_5 1 rfl ?_
  refine ky_ishl C dX0_knowsOf_6 ?_
  refine ky_iand C dX0_knowsOf_7 ?_
  refine ky_if_eq C 15 dX0_knowsOf_8 (by decide) ?_ ?_
  · refine ky_iconst C (0 : Int32) dX0_knowsOf_15 (by decide) ?_
    exact ky_zret C (by decide) dX0_knowsOf_16
  · refine ky_iconst C (1 : Int32) dX0_knowsOf_11 (by decide) ?_
    refine ky_goto C 16 dX0_knowsOf_12 (by decide) ?_
    exact ky_zret C (by decide) dX0_knowsOf_16
def rmX0_needs : Room := { frames := 1, cells := 0, slots := 0, locals := 20 }
theorem hd_X0_needs : yX0_needs.cls = RX0 ∧ yX0_needs.cls ≠ "java/lang/invoke/MethodHandle" ∧ yX0_needs.cls ≠ "java/lang/invoke/VarHandle" ∧ (parseMethodDescriptor yX0_needs.desc).map (fun d => d.parameters.length) = some 0 := ⟨rfl, by decide, by decide, by decide +kernel⟩
def f_X0_needs (F : Nat) (k0 : Nat) (M : Mem) : Option (Int32 × Mem) := if (M.1 k0 0) = (3 : Int32) then (bd (f_X0_hasPaid F k0 M) (fun r1 M2 => if r1 = 0 then (some (((2 : Int32) * (M2.1 k0 2)) - ((M2.1 k0 5) - (M2.1 k0 5) / (2 : Int32) * (2 : Int32)), M2)) else (some (M2.1 k0 2, M2)))) else (some (M.1 k0 2, M))
set_option maxRecDepth 100000 in
set_option maxHeartbeats 4000000 in
theorem c_X0_needs {G : KyG} {cy : Nat → ClassId} (hG : IsC G cy) (F : Nat)  (k0 : Nat) (M : Mem) (hk0 : isCv k0) : Ct G yX0_needs (wY yX0_needs cX0_needs 1 (some .int)) rmX0_needs rI [.ref (gA G k0)] (f_X0_needs F k0 M) M := by
  refine Ct_of cX0_needs 1 (some .int) RX0 hG.2.2.2.1 (by decide) rfl rfl (Nat.le_of_ble_eq_true rfl) rfl (fun E C => ?_)
  unfold f_X0_needs
  refine ky_aload_n C dX0_needs_0 0 rfl ?_
  refine ky_get C (ltC hG hk0) (ceC hG hk0) rfl inWX0 0 (by decide) (wY_in tw_1_61) rfl rfl dX0_needs_1 ?_
  refine ky_iconst C (3 : Int32) dX0_needs_4 (by decide) ?_
  refine ky_icmp_ne C 15 dX0_needs_5 (by decide) ?_ ?_
  · refine ky_aload_n C dX0_needs_8 0 rfl ?_
    refine ky_callVi C (c_X0_hasPaid hG F k0 M hk0) (ltC hG hk0) (ceC hG hk0) rfl (wY_goodV tw_2_103 tw_2_96 tw_2_97 tw_1_4 tw_2_98) hd_X0_hasPaid ⟨rfl, rfl, by decide, by decide⟩ rfl rfl (Nat.le_of_ble_eq_true rfl) dX0_needs_9 (fun r1 M2 => ?_)
    refine ky_if_eq C 20 dX0_needs_12 (by decide) ?_ ?_
    · refine ky_iconst C (2 : Int32) dX0_needs_20 (by decide) ?_
      refine ky_aload_n C dX0_needs_21 0 rfl ?_
      refine ky_get C (ltC hG hk0) (ceC hG hk0) rfl inWX0 2 (by decide) (wY_in tw_1_68) rfl rfl dX0_needs_22 ?_
      refine ky_imul C dX0_needs_25 ?_
      refine ky_aload_n C dX0_needs_26 0 rfl ?_
      refine ky_get C (ltC hG hk0) (ceC hG hk0) rfl inWX0 5 (by decide) (wY_in tw_1_78) rfl rfl dX0_needs_27 ?_
      refine ky_iconst C (2 : Int32) dX0_needs_30 (by decide) ?_
      refine ky_irem C dX0_needs_31 (by decide) ?_
      refine ky_isub C dX0_needs_32 ?_
      exact ky_iret C dX0_needs_33
    · refine ky_aload_n C dX0_needs_15 0 rfl ?_
      refine ky_get C (ltC hG hk0) (ceC hG hk0) rfl inWX0 2 (by decide) (wY_in tw_1_68) rfl rfl dX0_needs_16 ?_
      exact ky_iret C dX0_needs_19
  · refine ky_aload_n C dX0_needs_15 0 rfl ?_
    refine ky_get C (ltC hG hk0) (ceC hG hk0) rfl inWX0 2 (by decide) (wY_in tw_1_68) rfl rfl dX0_needs_16 ?_
    exact ky_iret C dX0_needs_19
def rmX0_pay : Room := { frames := 0, cells := 0, slots := 0, locals := 0 }
theorem hd_X0_pay : yX0_pay.cls = RX0 ∧ yX0_pay.cls ≠ "java/lang/invoke/MethodHandle" ∧ yX0_pay.cls ≠ "java/lang/invoke/VarHandle" ∧ (parseMethodDescriptor yX0_pay.desc).map (fun d => d.parameters.length) = some 0 := ⟨rfl, by decide, by decide, by decide +kernel⟩
def f_X0_pay (F : Nat) (k0 : Nat) (M : Mem) : Option (Unit × Mem) := nm ((M.1 k0 5) + (1 : Int32)) (fun x1 => nm (u2 M k0 5 x1) (fun M2 => if (M2.1 k0 0) = (3 : Int32) then (if ((M2.1 k0 5) - (M2.1 k0 5) / (2 : Int32) * (2 : Int32)) = 0 then (nm ((M2.1 k0 2) - (1 : Int32)) (fun x5 => nm (u2 M2 k0 2 x5) (fun M6 => some ((), M6)))) else (some ((), M2))) else (nm ((M2.1 k0 2) - (1 : Int32)) (fun x3 => nm (u2 M2 k0 2 x3) (fun M4 => some ((), M4))))))
set_option maxRecDepth 100000 in
set_option maxHeartbeats 4000000 in
theorem c_X0_pay {G : KyG} {cy : Nat → ClassId} (hG : IsC G cy) (F : Nat)  (k0 : Nat) (M : Mem) (hk0 : isCv k0) : Ct G yX0_pay (wY yX0_pay cX0_pay 1 none) rmX0_pay rV [.ref (gA G k0)] (f_X0_pay F k0 M) M := by
  refine Ct_of cX0_pay 1 none RX0 hG.2.2.2.1 (by decide) rfl rfl (Nat.le_of_ble_eq_true rfl) rfl (fun E C => ?_)
  unfold f_X0_pay
  refine ky_aload_n C dX0_pay_0 0 rfl ?_
  refine ky_dup C dX0_pay_1 rfl ?_
  refine ky_get C (ltC hG hk0) (ceC hG hk0) rfl inWX0 5 (by decide) (wY_in tw_1_78) rfl rfl dX0_pay_2 ?_
  refine ky_iconst C (1 : Int32) dX0_pay_5 (by decide) ?_
  refine ky_iadd C dX0_pay_6 ?_
  refine ky_nmi (fun x1 => ?_)
  refine ky_put C (ltC hG hk0) (ceC hG hk0) rfl inWX0 tyX0_ok nmX0 5 (by decide) (wY_in tw_1_78) ⟨rfl, rfl⟩ (tyX0_ok 5 (by decide)) rfl rfl (Nat.le_of_ble_eq_true rfl) rfl dX0_pay_7 (fun M2 => ?_)
  refine ky_aload_n C dX0_pay_10 0 rfl ?_
  refine ky_get C (ltC hG hk0) (ceC hG hk0) rfl inWX0 0 (by decide) (wY_in tw_1_61) rfl rfl dX0_pay_11 ?_
  refine ky_iconst C (3 : Int32) dX0_pay_14 (by decide) ?_
  refine ky_icmp_ne C 27 dX0_pay_15 (by decide) ?_ ?_
  · refine ky_aload_n C dX0_pay_18 0 rfl ?_
    refine ky_get C (ltC hG hk0) (ceC hG hk0) rfl inWX0 5 (by decide) (wY_in tw_1_78) rfl rfl dX0_pay_19 ?_
    refine ky_iconst C (2 : Int32) dX0_pay_22 (by decide) ?_
    refine ky_irem C dX0_pay_23 (by decide) ?_
    refine ky_if_ne C 37 dX0_pay_24 (by decide) ?_ ?_
    · refine ky_aload_n C dX0_pay_27 0 rfl ?_
      refine ky_dup C dX0_pay_28 rfl ?_
      refine ky_get C (ltC hG hk0) (ceC hG hk0) rfl inWX0 2 (by decide) (wY_in tw_1_68) rfl rfl dX0_pay_29 ?_
      refine ky_iconst C (1 : Int32) dX0_pay_32 (by decide) ?_
      refine ky_isub C dX0_pay_33 ?_
      refine ky_nmi (fun x5 => ?_)
      refine ky_put C (ltC hG hk0) (ceC hG hk0) rfl inWX0 tyX0_ok nmX0 2 (by decide) (wY_in tw_1_68) ⟨rfl, rfl⟩ (tyX0_ok 2 (by decide)) rfl rfl (Nat.le_of_ble_eq_true rfl) rfl dX0_pay_34 (fun M6 => ?_)
      exact ky_vret C dX0_pay_37
    · exact ky_vret C dX0_pay_37
  · refine ky_aload_n C dX0_pay_27 0 rfl ?_
    refine ky_dup C dX0_pay_28 rfl ?_
    refine ky_get C (ltC hG hk0) (ceC hG hk0) rfl inWX0 2 (by decide) (wY_in tw_1_68) rfl rfl dX0_pay_29 ?_
    refine ky_iconst C (1 : Int32) dX0_pay_32 (by decide) ?_
    refine ky_isub C dX0_pay_33 ?_
    refine ky_nmi (fun x3 => ?_)
    refine ky_put C (ltC hG hk0) (ceC hG hk0) rfl inWX0 tyX0_ok nmX0 2 (by decide) (wY_in tw_1_68) ⟨rfl, rfl⟩ (tyX0_ok 2 (by decide)) rfl rfl (Nat.le_of_ble_eq_true rfl) rfl dX0_pay_34 (fun M4 => ?_)
    exact ky_vret C dX0_pay_37
def rmJ6_bitCount_0f7a4 : Room := { frames := 0, cells := 0, slots := 0, locals := 0 }
theorem hd_J6_bitCount_0f7a4 : yJ6_bitCount_0f7a4.cls ≠ "java/lang/invoke/MethodHandle" ∧ yJ6_bitCount_0f7a4.cls ≠ "java/lang/invoke/VarHandle" ∧ (parseMethodDescriptor yJ6_bitCount_0f7a4.desc).map (fun d => d.parameters.length) = some 1 := ⟨by decide, by decide, by decide +kernel⟩
def f_J6_bitCount_0f7a4 (F : Nat) (a0 : Int32) (M : Mem) : Option (Int32 × Mem) := nm (a0 - (((a0.toUInt32 >>> ((1 : Int32).toUInt32 &&& Int32.toUInt32 31)).toInt32) &&& (1431655765 : Int32))) (fun x1 => nm ((x1 &&& (858993459 : Int32)) + (((x1.toUInt32 >>> ((2 : Int32).toUInt32 &&& Int32.toUInt32 31)).toInt32) &&& (858993459 : Int32))) (fun x2 => nm ((x2 + ((x2.toUInt32 >>> ((4 : Int32).toUInt32 &&& Int32.toUInt32 31)).toInt32)) &&& (252645135 : Int32)) (fun x3 => nm (x3 + ((x3.toUInt32 >>> ((8 : Int32).toUInt32 &&& Int32.toUInt32 31)).toInt32)) (fun x4 => nm (x4 + ((x4.toUInt32 >>> ((16 : Int32).toUInt32 &&& Int32.toUInt32 31)).toInt32)) (fun x5 => some (x5 &&& (63 : Int32), M))))))
set_option maxRecDepth 100000 in
set_option maxHeartbeats 4000000 in
theorem c_J6_bitCount_0f7a4 {G : KyG} {cy : Nat → ClassId} (hG : IsC G cy) (F : Nat)  (a0 : Int32) (M : Mem)  : Ct G yJ6_bitCount_0f7a4 (wY yJ6_bitCount_0f7a4 cJ6_bitCount_0f7a4 1 (some .int)) rmJ6_bitCount_0f7a4 rI [.int a0] (f_J6_bitCount_0f7a4 F a0 M) M := by
  refine Ct_of cJ6_bitCount_0f7a4 1 (some .int) RJ6 hG.2.2.2.1 (by decide) rfl rfl (Nat.le_of_ble_eq_true rfl) rfl (fun E C => ?_)
  unfold f_J6_bitCount_0f7a4
  refine ky_iload_n C dJ6_bitCount_0f7a4_0 0 rfl ?_
  refine ky_iload_n C dJ6_bitCount_0f7a4_1 0 rfl ?_
  refine ky_iconst C (1 : Int32) dJ6_bitCount_0f7a4_2 (by decide) ?_
  refine ky_iushr C dJ6_bitCount_0f7a4_3 ?_
  refine ky_ldcw C (1431655765 : Int32) (wY_in tw_2_41) dJ6_bitCount_0f7a4_4 ?_
  refine ky_iand C dJ6_bitCount_0f7a4_7 ?_
  refine ky_isub C dJ6_bitCount_0f7a4_8 ?_
  refine ky_nmi (fun x1 => ?_)
  refine ky_istore_n (lv' := [(0, .int x1)]) C dJ6_bitCount_0f7a4_9 (by decide) rfl ?_
  refine ky_iload_n C dJ6_bitCount_0f7a4_10 0 rfl ?_
  refine ky_ldcw C (858993459 : Int32) (wY_in tw_2_42) dJ6_bitCount_0f7a4_11 ?_
  refine ky_iand C dJ6_bitCount_0f7a4_14 ?_
  refine ky_iload_n C dJ6_bitCount_0f7a4_15 0 rfl ?_
  refine ky_iconst C (2 : Int32) dJ6_bitCount_0f7a4_16 (by decide) ?_
  refine ky_iushr C dJ6_bitCount_0f7a4_17 ?_
  refine ky_ldcw C (858993459 : Int32) (wY_in tw_2_42) dJ6_bitCount_0f7a4_18 ?_
  refine ky_iand C dJ6_bitCount_0f7a4_21 ?_
  refine ky_iadd C dJ6_bitCount_0f7a4_22 ?_
  refine ky_nmi (fun x2 => ?_)
  refine ky_istore_n (lv' := [(0, .int x2)]) C dJ6_bitCount_0f7a4_23 (by decide) rfl ?_
  refine ky_iload_n C dJ6_bitCount_0f7a4_24 0 rfl ?_
  refine ky_iload_n C dJ6_bitCount_0f7a4_25 0 rfl ?_
  refine ky_iconst C (4 : Int32) dJ6_bitCount_0f7a4_26 (by decide) ?_
  refine ky_iushr C dJ6_bitCount_0f7a4_27 ?_
  refine ky_iadd C dJ6_bitCount_0f7a4_28 ?_
  refine ky_ldcw C (252645135 : Int32) (wY_in tw_2_43) dJ6_bitCount_0f7a4_29 ?_
  refine ky_iand C dJ6_bitCount_0f7a4_32 ?_
  refine ky_nmi (fun x3 => ?_)
  refine ky_istore_n (lv' := [(0, .int x3)]) C dJ6_bitCount_0f7a4_33 (by decide) rfl ?_
  refine ky_iload_n C dJ6_bitCount_0f7a4_34 0 rfl ?_
  refine ky_iload_n C dJ6_bitCount_0f7a4_35 0 rfl ?_
  refine ky_bipush C (8 : Int32) dJ6_bitCount_0f7a4_36 (by decide) ?_
  refine ky_iushr C dJ6_bitCount_0f7a4_38 ?_
  refine ky_iadd C dJ6_bitCount_0f7a4_39 ?_
  refine ky_nmi (fun x4 => ?_)
  refine ky_istore_n (lv' := [(0, .int x4)]) C dJ6_bitCount_0f7a4_40 (by decide) rfl ?_
  refine ky_iload_n C dJ6_bitCount_0f7a4_41 0 rfl ?_
  refine ky_iload_n C dJ6_bitCount_0f7a4_42 0 rfl ?_
  refine ky_bipush C (16 : Int32) dJ6_bitCount_0f7a4_43 (by decide) ?_
  refine ky_iushr C dJ6_bitCount_0f7a4_45 ?_
  refine ky_iadd C dJ6_bitCount_0f7a4_46 ?_
  refine ky_nmi (fun x5 => ?_)
  refine ky_istore_n (lv' := [(0, .int x5)]) C dJ6_bitCount_0f7a4_47 (by decide) rfl ?_
  refine ky_iload_n C dJ6_bitCount_0f7a4_48 0 rfl ?_
  refine ky_bipush C (63 : Int32) dJ6_bitCount_0f7a4_49 (by decide) ?_
  refine ky_iand C dJ6_bitCount_0f7a4_51 ?_
  exact ky_iret C dJ6_bitCount_0f7a4_52
def rmX3_trueAndNew : Room := { frames := 0, cells := 0, slots := 0, locals := 0 }
theorem hd_X3_trueAndNew : yX3_trueAndNew.cls = RX3 ∧ yX3_trueAndNew.cls ≠ "java/lang/invoke/MethodHandle" ∧ yX3_trueAndNew.cls ≠ "java/lang/invoke/VarHandle" ∧ (parseMethodDescriptor yX3_trueAndNew.desc).map (fun d => d.parameters.length) = some 0 := ⟨rfl, by decide, by decide, by decide +kernel⟩
def f_X3_trueAndNew (F : Nat) (k0 : Nat) (M : Mem) : Option (Int32 × Mem) := some ((M.1 k0 0) &&& ((M.1 k0 1) ^^^ (mI 1)), M)
set_option maxRecDepth 100000 in
set_option maxHeartbeats 4000000 in
theorem c_X3_trueAndNew {G : KyG} {cy : Nat → ClassId} (hG : IsC G cy) (F : Nat)  (k0 : Nat) (M : Mem) (hk0 : isVi k0) : Ct G yX3_trueAndNew (wY yX3_trueAndNew cX3_trueAndNew 1 (some .int)) rmX3_trueAndNew rI [.ref (gA G k0)] (f_X3_trueAndNew F k0 M) M := by
  refine Ct_of cX3_trueAndNew 1 (some .int) RX3 hG.2.2.2.1 (by decide) rfl rfl (Nat.le_of_ble_eq_true rfl) rfl (fun E C => ?_)
  unfold f_X3_trueAndNew
  refine ky_aload_n C dX3_trueAndNew_0 0 rfl ?_
  refine ky_get C (ltV hG hk0) (ceV hG hk0) rfl inWX3 0 (by decide) (wY_in tw_1_37) rfl rfl dX3_trueAndNew_1 ?_
  refine ky_aload_n C dX3_trueAndNew_4 0 rfl ?_
  refine ky_get C (ltV hG hk0) (ceV hG hk0) rfl inWX3 1 (by decide) (wY_in tw_1_40) rfl rfl dX3_trueAndNew_5 ?_
  refine ky_iconst C (mI 1) dX3_trueAndNew_8 (by decide) ?_
  refine ky_ixor C dX3_trueAndNew_9 ?_
  refine ky_iand C dX3_trueAndNew_10 ?_
  exact ky_iret C dX3_trueAndNew_11
def rmX3_forgetTrials : Room := { frames := 0, cells := 0, slots := 0, locals := 0 }
theorem hd_X3_forgetTrials : yX3_forgetTrials.cls = RX3 ∧ yX3_forgetTrials.cls ≠ "java/lang/invoke/MethodHandle" ∧ yX3_forgetTrials.cls ≠ "java/lang/invoke/VarHandle" ∧ (parseMethodDescriptor yX3_forgetTrials.desc).map (fun d => d.parameters.length) = some 0 := ⟨rfl, by decide, by decide, by decide +kernel⟩
def f_X3_forgetTrials (F : Nat) (k0 : Nat) (M : Mem) : Option (Unit × Mem) := nm (u2 M k0 2 (0 : Int32)) (fun M1 => nm (u2 M1 k0 3 (0 : Int32)) (fun M2 => some ((), M2)))
set_option maxRecDepth 100000 in
set_option maxHeartbeats 4000000 in
theorem c_X3_forgetTrials {G : KyG} {cy : Nat → ClassId} (hG : IsC G cy) (F : Nat)  (k0 : Nat) (M : Mem) (hk0 : isVi k0) : Ct G yX3_forgetTrials (wY yX3_forgetTrials cX3_forgetTrials 1 none) rmX3_forgetTrials rV [.ref (gA G k0)] (f_X3_forgetTrials F k0 M) M := by
  refine Ct_of cX3_forgetTrials 1 none RX3 hG.2.2.2.1 (by decide) rfl rfl (Nat.le_of_ble_eq_true rfl) rfl (fun E C => ?_)
  unfold f_X3_forgetTrials
  refine ky_aload_n C dX3_forgetTrials_0 0 rfl ?_
  refine ky_iconst C (0 : Int32) dX3_forgetTrials_1 (by decide) ?_
  refine ky_put C (ltV hG hk0) (ceV hG hk0) rfl inWX3 tyX3_ok nmX3 2 (by decide) (wY_in tw_1_43) ⟨rfl, rfl⟩ (tyX3_ok 2 (by decide)) rfl rfl (Nat.le_of_ble_eq_true rfl) rfl dX3_forgetTrials_2 (fun M1 => ?_)
  refine ky_aload_n C dX3_forgetTrials_5 0 rfl ?_
  refine ky_iconst C (0 : Int32) dX3_forgetTrials_6 (by decide) ?_
  refine ky_put C (ltV hG hk0) (ceV hG hk0) rfl inWX3 tyX3_ok nmX3 3 (by decide) (wY_in tw_1_45) ⟨rfl, rfl⟩ (tyX3_ok 3 (by decide)) rfl rfl (Nat.le_of_ble_eq_true rfl) rfl dX3_forgetTrials_7 (fun M2 => ?_)
  exact ky_vret C dX3_forgetTrials_10
def rmX3_clear : Room := { frames := 1, cells := 0, slots := 0, locals := 20 }
theorem hd_X3_clear : yX3_clear.cls = RX3 ∧ yX3_clear.cls ≠ "java/lang/invoke/MethodHandle" ∧ yX3_clear.cls ≠ "java/lang/invoke/VarHandle" ∧ (parseMethodDescriptor yX3_clear.desc).map (fun d => d.parameters.length) = some 0 := ⟨rfl, by decide, by decide, by decide +kernel⟩
def f_X3_clear (F : Nat) (k0 : Nat) (M : Mem) : Option (Unit × Mem) := nm (u2 M k0 0 (0 : Int32)) (fun M1 => nm (u2 M1 k0 1 (0 : Int32)) (fun M2 => bd (f_X3_forgetTrials F k0 M2) (fun r3 M4 => some ((), M4))))
set_option maxRecDepth 100000 in
set_option maxHeartbeats 4000000 in
theorem c_X3_clear {G : KyG} {cy : Nat → ClassId} (hG : IsC G cy) (F : Nat)  (k0 : Nat) (M : Mem) (hk0 : isVi k0) : Ct G yX3_clear (wY yX3_clear cX3_clear 1 none) rmX3_clear rV [.ref (gA G k0)] (f_X3_clear F k0 M) M := by
  refine Ct_of cX3_clear 1 none RX3 hG.2.2.2.1 (by decide) rfl rfl (Nat.le_of_ble_eq_true rfl) rfl (fun E C => ?_)
  unfold f_X3_clear
  refine ky_aload_n C dX3_clear_0 0 rfl ?_
  refine ky_iconst C (0 : Int32) dX3_clear_1 (by decide) ?_
  refine ky_put C (ltV hG hk0) (ceV hG hk0) rfl inWX3 tyX3_ok nmX3 0 (by decide) (wY_in tw_1_37) ⟨rfl, rfl⟩ (tyX3_ok 0 (by decide)) rfl rfl (Nat.le_of_ble_eq_true rfl) rfl dX3_clear_2 (fun M1 => ?_)
  refine ky_aload_n C dX3_clear_5 0 rfl ?_
  refine ky_iconst C (0 : Int32) dX3_clear_6 (by decide) ?_
  refine ky_put C (ltV hG hk0) (ceV hG hk0) rfl inWX3 tyX3_ok nmX3 1 (by decide) (wY_in tw_1_40) ⟨rfl, rfl⟩ (tyX3_ok 1 (by decide)) rfl rfl (Nat.le_of_ble_eq_true rfl) rfl dX3_clear_7 (fun M2 => ?_)
  refine ky_aload_n C dX3_clear_10 0 rfl ?_
  refine ky_callVv C (c_X3_forgetTrials hG F k0 M2 hk0) (ltV hG hk0) (ceV hG hk0) rfl (wY_goodV tw_2_26 tw_2_27 tw_2_28 tw_1_3 tw_2_29) hd_X3_forgetTrials ⟨rfl, rfl, by decide, by decide⟩ rfl rfl (Nat.le_of_ble_eq_true rfl) dX3_clear_11 (fun r3 M4 => ?_)
  exact ky_vret C dX3_clear_14
def rmX3_copy : Room := { frames := 0, cells := 0, slots := 0, locals := 0 }
theorem hd_X3_copy : yX3_copy.cls = RX3 ∧ yX3_copy.cls ≠ "java/lang/invoke/MethodHandle" ∧ yX3_copy.cls ≠ "java/lang/invoke/VarHandle" ∧ (parseMethodDescriptor yX3_copy.desc).map (fun d => d.parameters.length) = some 1 := ⟨rfl, by decide, by decide, by decide +kernel⟩
def f_X3_copy (F : Nat) (k0 : Nat) (k1 : Nat) (M : Mem) : Option (Unit × Mem) := nm (M.1 k1 0) (fun x1 => nm (u2 M k0 0 x1) (fun M2 => nm (M2.1 k1 1) (fun x3 => nm (u2 M2 k0 1 x3) (fun M4 => nm (M4.1 k1 2) (fun x5 => nm (u2 M4 k0 2 x5) (fun M6 => nm (M6.1 k1 3) (fun x7 => nm (u2 M6 k0 3 x7) (fun M8 => some ((), M8)))))))))
set_option maxRecDepth 100000 in
set_option maxHeartbeats 4000000 in
theorem c_X3_copy {G : KyG} {cy : Nat → ClassId} (hG : IsC G cy) (F : Nat)  (k0 : Nat) (k1 : Nat) (M : Mem) (hk0 : isVi k0) (hk1 : isVi k1) : Ct G yX3_copy (wY yX3_copy cX3_copy 2 none) rmX3_copy rV [.ref (gA G k0), .ref (gA G k1)] (f_X3_copy F k0 k1 M) M := by
  refine Ct_of cX3_copy 2 none RX3 hG.2.2.2.1 (by decide) rfl rfl (Nat.le_of_ble_eq_true rfl) rfl (fun E C => ?_)
  unfold f_X3_copy
  refine ky_aload_n C dX3_copy_0 0 rfl ?_
  refine ky_aload_n C dX3_copy_1 1 rfl ?_
  refine ky_get C (ltV hG hk1) (ceV hG hk1) rfl inWX3 0 (by decide) (wY_in tw_1_37) rfl rfl dX3_copy_2 ?_
  refine ky_nmi (fun x1 => ?_)
  refine ky_put C (ltV hG hk0) (ceV hG hk0) rfl inWX3 tyX3_ok nmX3 0 (by decide) (wY_in tw_1_37) ⟨rfl, rfl⟩ (tyX3_ok 0 (by decide)) rfl rfl (Nat.le_of_ble_eq_true rfl) rfl dX3_copy_5 (fun M2 => ?_)
  refine ky_aload_n C dX3_copy_8 0 rfl ?_
  refine ky_aload_n C dX3_copy_9 1 rfl ?_
  refine ky_get C (ltV hG hk1) (ceV hG hk1) rfl inWX3 1 (by decide) (wY_in tw_1_40) rfl rfl dX3_copy_10 ?_
  refine ky_nmi (fun x3 => ?_)
  refine ky_put C (ltV hG hk0) (ceV hG hk0) rfl inWX3 tyX3_ok nmX3 1 (by decide) (wY_in tw_1_40) ⟨rfl, rfl⟩ (tyX3_ok 1 (by decide)) rfl rfl (Nat.le_of_ble_eq_true rfl) rfl dX3_copy_13 (fun M4 => ?_)
  refine ky_aload_n C dX3_copy_16 0 rfl ?_
  refine ky_aload_n C dX3_copy_17 1 rfl ?_
  refine ky_get C (ltV hG hk1) (ceV hG hk1) rfl inWX3 2 (by decide) (wY_in tw_1_43) rfl rfl dX3_copy_18 ?_
  refine ky_nmi (fun x5 => ?_)
  refine ky_put C (ltV hG hk0) (ceV hG hk0) rfl inWX3 tyX3_ok nmX3 2 (by decide) (wY_in tw_1_43) ⟨rfl, rfl⟩ (tyX3_ok 2 (by decide)) rfl rfl (Nat.le_of_ble_eq_true rfl) rfl dX3_copy_21 (fun M6 => ?_)
  refine ky_aload_n C dX3_copy_24 0 rfl ?_
  refine ky_aload_n C dX3_copy_25 1 rfl ?_
  refine ky_get C (ltV hG hk1) (ceV hG hk1) rfl inWX3 3 (by decide) (wY_in tw_1_45) rfl rfl dX3_copy_26 ?_
  refine ky_nmi (fun x7 => ?_)
  refine ky_put C (ltV hG hk0) (ceV hG hk0) rfl inWX3 tyX3_ok nmX3 3 (by decide) (wY_in tw_1_45) ⟨rfl, rfl⟩ (tyX3_ok 3 (by decide)) rfl rfl (Nat.le_of_ble_eq_true rfl) rfl dX3_copy_29 (fun M8 => ?_)
  exact ky_vret C dX3_copy_32
def rmX3_possibleSets : Room := { frames := 1, cells := 0, slots := 0, locals := 20 }
theorem hd_X3_possibleSets : yX3_possibleSets.cls = RX3 ∧ yX3_possibleSets.cls ≠ "java/lang/invoke/MethodHandle" ∧ yX3_possibleSets.cls ≠ "java/lang/invoke/VarHandle" ∧ (parseMethodDescriptor yX3_possibleSets.desc).map (fun d => d.parameters.length) = some 0 := ⟨rfl, by decide, by decide, by decide +kernel⟩
def f_X3_possibleSets (F : Nat) (k0 : Nat) (M : Mem) : Option (Int32 × Mem) := if ((M.1 k0 2) &&& (M.1 k0 3)) = 0 then (bd (f_J6_bitCount_0f7a4 F ((M.1 k0 2) ||| (M.1 k0 3)) M) (fun r1 M2 => some ((1 : Int32) <<< (((6 : Int32) - r1) &&& 31), M2))) else (some ((0 : Int32), M))
set_option maxRecDepth 100000 in
set_option maxHeartbeats 4000000 in
theorem c_X3_possibleSets {G : KyG} {cy : Nat → ClassId} (hG : IsC G cy) (F : Nat)  (k0 : Nat) (M : Mem) (hk0 : isVi k0) : Ct G yX3_possibleSets (wY yX3_possibleSets cX3_possibleSets 1 (some .int)) rmX3_possibleSets rI [.ref (gA G k0)] (f_X3_possibleSets F k0 M) M := by
  refine Ct_of cX3_possibleSets 1 (some .int) RX3 hG.2.2.2.1 (by decide) rfl rfl (Nat.le_of_ble_eq_true rfl) rfl (fun E C => ?_)
  unfold f_X3_possibleSets
  refine ky_aload_n C dX3_possibleSets_0 0 rfl ?_
  refine ky_get C (ltV hG hk0) (ceV hG hk0) rfl inWX3 2 (by decide) (wY_in tw_1_43) rfl rfl dX3_possibleSets_1 ?_
  refine ky_aload_n C dX3_possibleSets_4 0 rfl ?_
  refine ky_get C (ltV hG hk0) (ceV hG hk0) rfl inWX3 3 (by decide) (wY_in tw_1_45) rfl rfl dX3_possibleSets_5 ?_
  refine ky_iand C dX3_possibleSets_8 ?_
  refine ky_if_eq C 14 dX3_possibleSets_9 (by decide) ?_ ?_
  · refine ky_iconst C (1 : Int32) dX3_possibleSets_14 (by decide) ?_
    refine ky_bipush C (6 : Int32) dX3_possibleSets_15 (by decide) ?_
    refine ky_aload_n C dX3_possibleSets_17 0 rfl ?_
    refine ky_get C (ltV hG hk0) (ceV hG hk0) rfl inWX3 2 (by decide) (wY_in tw_1_43) rfl rfl dX3_possibleSets_18 ?_
    refine ky_aload_n C dX3_possibleSets_21 0 rfl ?_
    refine ky_get C (ltV hG hk0) (ceV hG hk0) rfl inWX3 3 (by decide) (wY_in tw_1_45) rfl rfl dX3_possibleSets_22 ?_
    refine ky_ior C dX3_possibleSets_25 ?_
    refine ky_callSi C (c_J6_bitCount_0f7a4 hG F ((M.1 k0 2) ||| (M.1 k0 3)) M ) (wY_goodS tw_2_213 tw_2_39 tw_1_12 tw_2_40) hd_J6_bitCount_0f7a4 ⟨rfl, rfl, by decide, by decide⟩ rfl rfl (Nat.le_of_ble_eq_true rfl) dX3_possibleSets_26 (fun r1 M2 => ?_)
    refine ky_isub C dX3_possibleSets_29 ?_
    refine ky_ishl C dX3_possibleSets_30 ?_
    exact ky_iret C dX3_possibleSets_31
  · refine ky_iconst C (0 : Int32) dX3_possibleSets_12 (by decide) ?_
    exact ky_iret C dX3_possibleSets_13
def rmX3_sayingToTry : Room := { frames := 2, cells := 0, slots := 0, locals := 40 }
theorem hd_X3_sayingToTry : yX3_sayingToTry.cls = RX3 ∧ yX3_sayingToTry.cls ≠ "java/lang/invoke/MethodHandle" ∧ yX3_sayingToTry.cls ≠ "java/lang/invoke/VarHandle" ∧ (parseMethodDescriptor yX3_sayingToTry.desc).map (fun d => d.parameters.length) = some 0 := ⟨rfl, by decide, by decide, by decide +kernel⟩
def LX3_sayingToTry_21 (F : Nat)  : Nat → Int32 → Int32 → Mem → Option (Int32 × Mem)
  | 0, _, _, _ => none
  | n + 1, xv1, xv2, M => if (6 : Int32) ≤ xv2 then (some ((0 : Int32), M)) else (if (xv1 &&& ((1 : Int32) <<< (xv2 &&& 31))) = 0 then (some (xv2, M)) else (nm (xv2 + (1 : Int32)) (fun x4 => LX3_sayingToTry_21 F n xv1 x4 M)))
theorem LX3_sayingToTry_21_s (F : Nat)  (n : Nat) (xv1 : Int32) (xv2 : Int32) (M : Mem) : LX3_sayingToTry_21 F (n + 1) xv1 xv2 M = (if (6 : Int32) ≤ xv2 then (some ((0 : Int32), M)) else (if (xv1 &&& ((1 : Int32) <<< (xv2 &&& 31))) = 0 then (some (xv2, M)) else (nm (xv2 + (1 : Int32)) (fun x4 => LX3_sayingToTry_21 F n xv1 x4 M)))) := rfl
set_option maxRecDepth 100000 in
set_option maxHeartbeats 4000000 in
theorem lX3_sayingToTry_21 {G : KyG} {cy : Nat → ClassId} (hG : IsC G cy) {E : KyE} (C : Cx G E cX3_sayingToTry 3 RX3 (wY yX3_sayingToTry cX3_sayingToTry 3 (some .int)) (some .int) rmX3_sayingToTry) (F : Nat)   : ∀ (n : Nat) (xv1 : Int32) (xv2 : Int32) (M : Mem) , Wo G E 3 rI (LX3_sayingToTry_21 F n xv1 xv2 M) M 21 [(1, .int xv1), (2, .int xv2)] [] := by
  intro n
  induction n with
  | zero => intro xv1 xv2 M ; exact ky_none
  | succ n ih =>
    intro xv1 xv2 M 
    rw [LX3_sayingToTry_21_s]
    refine ky_iload_n C dX3_sayingToTry_21 1 rfl ?_
    refine ky_bipush C (6 : Int32) dX3_sayingToTry_22 (by decide) ?_
    refine ky_icmp_ge C 43 dX3_sayingToTry_24 (by decide) ?_ ?_
    · refine ky_iconst C (0 : Int32) dX3_sayingToTry_43 (by decide) ?_
      exact ky_iret C dX3_sayingToTry_44
    · refine ky_iload_n C dX3_sayingToTry_27 0 rfl ?_
      refine ky_iconst C (1 : Int32) dX3_sayingToTry_28 (by decide) ?_
      refine ky_iload_n C dX3_sayingToTry_29 1 rfl ?_
      refine ky_ishl C dX3_sayingToTry_30 ?_
      refine ky_iand C dX3_sayingToTry_31 ?_
      refine ky_if_ne C 37 dX3_sayingToTry_32 (by decide) ?_ ?_
      · refine ky_iload_n C dX3_sayingToTry_35 1 rfl ?_
        exact ky_iret C dX3_sayingToTry_36
      · refine ky_iinc (lv' := fun x4 => [(2, .int x4), (1, .int xv1)]) C dX3_sayingToTry_37 1 rfl (d1 := (1 : Int32)) rfl (by decide) (fun _ => rfl) (fun x4 => ?_)
        refine ky_goto C 21 dX3_sayingToTry_40 (by decide) ?_
        exact ky_sub [1, 0] rfl (ih xv1 x4 M )
def f_X3_sayingToTry (F : Nat) (k0 : Nat) (M : Mem) : Option (Int32 × Mem) := bd (f_X3_possibleSets F k0 M) (fun r1 M2 => if r1 = 0 then (some ((mI 1), M2)) else (nm ((M2.1 k0 2) ||| (M2.1 k0 3)) (fun x3 => LX3_sayingToTry_21 F  F x3 (0 : Int32) M2)))
set_option maxRecDepth 100000 in
set_option maxHeartbeats 4000000 in
theorem c_X3_sayingToTry {G : KyG} {cy : Nat → ClassId} (hG : IsC G cy) (F : Nat)  (k0 : Nat) (M : Mem) (hk0 : isVi k0) : Ct G yX3_sayingToTry (wY yX3_sayingToTry cX3_sayingToTry 3 (some .int)) rmX3_sayingToTry rI [.ref (gA G k0)] (f_X3_sayingToTry F k0 M) M := by
  refine Ct_of cX3_sayingToTry 3 (some .int) RX3 hG.2.2.2.1 (by decide) rfl rfl (Nat.le_of_ble_eq_true rfl) rfl (fun E C => ?_)
  unfold f_X3_sayingToTry
  refine ky_aload_n C dX3_sayingToTry_0 0 rfl ?_
  refine ky_callVi C (c_X3_possibleSets hG F k0 M hk0) (ltV hG hk0) (ceV hG hk0) rfl (wY_goodV tw_2_222 tw_2_210 tw_2_211 tw_1_3 tw_2_212) hd_X3_possibleSets ⟨rfl, rfl, by decide, by decide⟩ rfl rfl (Nat.le_of_ble_eq_true rfl) dX3_sayingToTry_1 (fun r1 M2 => ?_)
  refine ky_if_ne C 9 dX3_sayingToTry_4 (by decide) ?_ ?_
  · refine ky_iconst C (mI 1) dX3_sayingToTry_7 (by decide) ?_
    exact ky_iret C dX3_sayingToTry_8
  · refine ky_aload_n C dX3_sayingToTry_9 0 rfl ?_
    refine ky_get C (ltV hG hk0) (ceV hG hk0) rfl inWX3 2 (by decide) (wY_in tw_1_43) rfl rfl dX3_sayingToTry_10 ?_
    refine ky_aload_n C dX3_sayingToTry_13 0 rfl ?_
    refine ky_get C (ltV hG hk0) (ceV hG hk0) rfl inWX3 3 (by decide) (wY_in tw_1_45) rfl rfl dX3_sayingToTry_14 ?_
    refine ky_ior C dX3_sayingToTry_17 ?_
    refine ky_nmi (fun x3 => ?_)
    refine ky_istore_n (lv' := [(1, .int x3), (0, .ref (gA G k0))]) C dX3_sayingToTry_18 (by decide) rfl ?_
    refine ky_iconst C (0 : Int32) dX3_sayingToTry_19 (by decide) ?_
    refine ky_istore_n (lv' := [(2, .int (0 : Int32)), (1, .int x3), (0, .ref (gA G k0))]) C dX3_sayingToTry_20 (by decide) rfl ?_
    exact ky_sub [1, 0] rfl (lX3_sayingToTry_21 hG C F   F x3 (0 : Int32) M2 )
def rmX3_tried : Room := { frames := 0, cells := 0, slots := 0, locals := 0 }
theorem hd_X3_tried : yX3_tried.cls = RX3 ∧ yX3_tried.cls ≠ "java/lang/invoke/MethodHandle" ∧ yX3_tried.cls ≠ "java/lang/invoke/VarHandle" ∧ (parseMethodDescriptor yX3_tried.desc).map (fun d => d.parameters.length) = some 2 := ⟨rfl, by decide, by decide, by decide +kernel⟩
def f_X3_tried (F : Nat) (k0 : Nat) (a1 : Int32) (a2 : Int32) (M : Mem) : Option (Unit × Mem) := if a2 = 0 then (nm ((M.1 k0 3) ||| ((1 : Int32) <<< (a1 &&& 31))) (fun x1 => nm (u2 M k0 3 x1) (fun M2 => some ((), M2)))) else (nm ((M.1 k0 2) ||| ((1 : Int32) <<< (a1 &&& 31))) (fun x3 => nm (u2 M k0 2 x3) (fun M4 => some ((), M4))))
set_option maxRecDepth 100000 in
set_option maxHeartbeats 4000000 in
theorem c_X3_tried {G : KyG} {cy : Nat → ClassId} (hG : IsC G cy) (F : Nat)  (k0 : Nat) (a1 : Int32) (a2 : Int32) (M : Mem) (hk0 : isVi k0) : Ct G yX3_tried (wY yX3_tried cX3_tried 3 none) rmX3_tried rV [.ref (gA G k0), .int a1, .int a2] (f_X3_tried F k0 a1 a2 M) M := by
  refine Ct_of cX3_tried 3 none RX3 hG.2.2.2.1 (by decide) rfl rfl (Nat.le_of_ble_eq_true rfl) rfl (fun E C => ?_)
  unfold f_X3_tried
  refine ky_iload_n C dX3_tried_0 2 rfl ?_
  refine ky_if_eq C 19 dX3_tried_1 (by decide) ?_ ?_
  · refine ky_aload_n C dX3_tried_19 0 rfl ?_
    refine ky_dup C dX3_tried_20 rfl ?_
    refine ky_get C (ltV hG hk0) (ceV hG hk0) rfl inWX3 3 (by decide) (wY_in tw_1_45) rfl rfl dX3_tried_21 ?_
    refine ky_iconst C (1 : Int32) dX3_tried_24 (by decide) ?_
    refine ky_iload_n C dX3_tried_25 1 rfl ?_
    refine ky_ishl C dX3_tried_26 ?_
    refine ky_ior C dX3_tried_27 ?_
    refine ky_nmi (fun x1 => ?_)
    refine ky_put C (ltV hG hk0) (ceV hG hk0) rfl inWX3 tyX3_ok nmX3 3 (by decide) (wY_in tw_1_45) ⟨rfl, rfl⟩ (tyX3_ok 3 (by decide)) rfl rfl (Nat.le_of_ble_eq_true rfl) rfl dX3_tried_28 (fun M2 => ?_)
    exact ky_vret C dX3_tried_31
  · refine ky_aload_n C dX3_tried_4 0 rfl ?_
    refine ky_dup C dX3_tried_5 rfl ?_
    refine ky_get C (ltV hG hk0) (ceV hG hk0) rfl inWX3 2 (by decide) (wY_in tw_1_43) rfl rfl dX3_tried_6 ?_
    refine ky_iconst C (1 : Int32) dX3_tried_9 (by decide) ?_
    refine ky_iload_n C dX3_tried_10 1 rfl ?_
    refine ky_ishl C dX3_tried_11 ?_
    refine ky_ior C dX3_tried_12 ?_
    refine ky_nmi (fun x3 => ?_)
    refine ky_put C (ltV hG hk0) (ceV hG hk0) rfl inWX3 tyX3_ok nmX3 2 (by decide) (wY_in tw_1_43) ⟨rfl, rfl⟩ (tyX3_ok 2 (by decide)) rfl rfl (Nat.le_of_ble_eq_true rfl) rfl dX3_tried_13 (fun M4 => ?_)
    refine ky_goto C 31 dX3_tried_16 (by decide) ?_
    exact ky_vret C dX3_tried_31
def rmJ0_coder_7d493 : Room := { frames := 0, cells := 0, slots := 0, locals := 0 }
theorem hd_J0_coder_7d493 : yJ0_coder_7d493.cls = RJ0 ∧ yJ0_coder_7d493.cls ≠ "java/lang/invoke/MethodHandle" ∧ yJ0_coder_7d493.cls ≠ "java/lang/invoke/VarHandle" ∧ (parseMethodDescriptor yJ0_coder_7d493.desc).map (fun d => d.parameters.length) = some 0 := ⟨rfl, by decide, by decide, by decide +kernel⟩
def f_J0_coder_7d493 (F : Nat)  (M : Mem) : Option (Int32 × Mem) := if (1 : Int32) = 0 then none else (some ((0 : Int32), M))
set_option maxRecDepth 100000 in
set_option maxHeartbeats 4000000 in
theorem c_J0_coder_7d493 {G : KyG} {cy : Nat → ClassId} (hG : IsC G cy) (F : Nat)   (M : Mem)  : Ct G yJ0_coder_7d493 (wY yJ0_coder_7d493 cJ0_coder_7d493 1 (some .byte)) rmJ0_coder_7d493 rI [.ref (gA G 36)] (f_J0_coder_7d493 F  M) M := by
  refine Ct_of cJ0_coder_7d493 1 (some .byte) RJ0 hG.2.2.2.1 (by decide) rfl rfl (Nat.le_of_ble_eq_true rfl) rfl (fun E C => ?_)
  unfold f_J0_coder_7d493
  refine ky_getCS C hG (wY_in tw_1_212) dJ0_coder_7d493_0 ?_
  refine ky_if_eq C 13 dJ0_coder_7d493_3 (by decide) ?_ ?_
  · exact ky_none
  · refine ky_aload_n C dJ0_coder_7d493_6 0 rfl ?_
    refine ky_getScoder C hG (wY_in tw_4_141) dJ0_coder_7d493_7 ?_
    refine ky_goto C 14 dJ0_coder_7d493_10 (by decide) ?_
    exact ky_bret C (by decide) dJ0_coder_7d493_14
def rmJ0_length_8abf5 : Room := { frames := 1, cells := 0, slots := 0, locals := 20 }
theorem hd_J0_length_8abf5 : yJ0_length_8abf5.cls = RJ0 ∧ yJ0_length_8abf5.cls ≠ "java/lang/invoke/MethodHandle" ∧ yJ0_length_8abf5.cls ≠ "java/lang/invoke/VarHandle" ∧ (parseMethodDescriptor yJ0_length_8abf5.desc).map (fun d => d.parameters.length) = some 0 := ⟨rfl, by decide, by decide, by decide +kernel⟩
def f_J0_length_8abf5 (F : Nat)  (M : Mem) : Option (Int32 × Mem) := bd (f_J0_coder_7d493 F M) (fun r1 M2 => some ((10 : Int32) >>> (r1 &&& 31), M2))
set_option maxRecDepth 100000 in
set_option maxHeartbeats 4000000 in
theorem c_J0_length_8abf5 {G : KyG} {cy : Nat → ClassId} (hG : IsC G cy) (F : Nat)   (M : Mem)  : Ct G yJ0_length_8abf5 (wY yJ0_length_8abf5 cJ0_length_8abf5 1 (some .int)) rmJ0_length_8abf5 rI [.ref (gA G 36)] (f_J0_length_8abf5 F  M) M := by
  refine Ct_of cJ0_length_8abf5 1 (some .int) RJ0 hG.2.2.2.1 (by decide) rfl rfl (Nat.le_of_ble_eq_true rfl) rfl (fun E C => ?_)
  unfold f_J0_length_8abf5
  refine ky_aload_n C dJ0_length_8abf5_0 0 rfl ?_
  refine ky_getSvalue C hG (wY_in tw_4_140) dJ0_length_8abf5_1 ?_
  refine ky_alenS C hG dJ0_length_8abf5_4 ?_
  refine ky_aload_n C dJ0_length_8abf5_5 0 rfl ?_
  refine ky_callStri C hG (c_J0_coder_7d493 hG F M ) (wY_goodV tw_1_208 tw_1_209 tw_1_210 tw_1_8 tw_1_211) hd_J0_coder_7d493 ⟨rfl, rfl, by decide, by decide⟩ rfl rfl (Nat.le_of_ble_eq_true rfl) dJ0_length_8abf5_6 (fun r1 M2 => ?_)
  refine ky_ishr C dJ0_length_8abf5_9 ?_
  exact ky_iret C dJ0_length_8abf5_10
def rmJ0_isLatin1_aae02 : Room := { frames := 0, cells := 0, slots := 0, locals := 0 }
theorem hd_J0_isLatin1_aae02 : yJ0_isLatin1_aae02.cls = RJ0 ∧ yJ0_isLatin1_aae02.cls ≠ "java/lang/invoke/MethodHandle" ∧ yJ0_isLatin1_aae02.cls ≠ "java/lang/invoke/VarHandle" ∧ (parseMethodDescriptor yJ0_isLatin1_aae02.desc).map (fun d => d.parameters.length) = some 0 := ⟨rfl, by decide, by decide, by decide +kernel⟩
def f_J0_isLatin1_aae02 (F : Nat)  (M : Mem) : Option (Int32 × Mem) := if (1 : Int32) = 0 then none else (if (0 : Int32) = 0 then (some ((1 : Int32), M)) else none)
set_option maxRecDepth 100000 in
set_option maxHeartbeats 4000000 in
theorem c_J0_isLatin1_aae02 {G : KyG} {cy : Nat → ClassId} (hG : IsC G cy) (F : Nat)   (M : Mem)  : Ct G yJ0_isLatin1_aae02 (wY yJ0_isLatin1_aae02 cJ0_isLatin1_aae02 1 (some .boolean)) rmJ0_isLatin1_aae02 rI [.ref (gA G 36)] (f_J0_isLatin1_aae02 F  M) M := by
  refine Ct_of cJ0_isLatin1_aae02 1 (some .boolean) RJ0 hG.2.2.2.1 (by decide) rfl rfl (Nat.le_of_ble_eq_true rfl) rfl (fun E C => ?_)
  unfold f_J0_isLatin1_aae02
  refine ky_getCS C hG (wY_in tw_1_212) dJ0_isLatin1_aae02_0 ?_
  refine ky_if_eq C 17 dJ0_isLatin1_aae02_3 (by decide) ?_ ?_
  · exact ky_none
  · refine ky_aload_n C dJ0_isLatin1_aae02_6 0 rfl ?_
    refine ky_getScoder C hG (wY_in tw_4_141) dJ0_isLatin1_aae02_7 ?_
    refine ky_if_ne C 17 dJ0_isLatin1_aae02_10 (by decide) ?_ ?_
    · refine ky_iconst C (1 : Int32) dJ0_isLatin1_aae02_13 (by decide) ?_
      refine ky_goto C 18 dJ0_isLatin1_aae02_14 (by decide) ?_
      exact ky_zret C (by decide) dJ0_isLatin1_aae02_18
    · exact ky_none
def rmJ3_checkIndex_8e157 : Room := { frames := 0, cells := 0, slots := 0, locals := 0 }
theorem hd_J3_checkIndex_8e157 : yJ3_checkIndex_8e157.cls ≠ "java/lang/invoke/MethodHandle" ∧ yJ3_checkIndex_8e157.cls ≠ "java/lang/invoke/VarHandle" ∧ (parseMethodDescriptor yJ3_checkIndex_8e157.desc).map (fun d => d.parameters.length) = some 3 := ⟨by decide, by decide, by decide +kernel⟩
def f_J3_checkIndex_8e157 (F : Nat) (a0 : Int32) (a1 : Int32) (M : Mem) : Option (Int32 × Mem) := if a0 < 0 then none else (if a0 < a1 then (some (a0, M)) else none)
set_option maxRecDepth 100000 in
set_option maxHeartbeats 4000000 in
theorem c_J3_checkIndex_8e157 {G : KyG} {cy : Nat → ClassId} (hG : IsC G cy) (F : Nat) (v1 : Value) (hv1 : v1.category = 1) (a0 : Int32) (a1 : Int32) (M : Mem)  : Ct G yJ3_checkIndex_8e157 (wY yJ3_checkIndex_8e157 cJ3_checkIndex_8e157 3 (some .int)) rmJ3_checkIndex_8e157 rI [.int a0, .int a1, v1] (f_J3_checkIndex_8e157 F a0 a1 M) M := by
  refine Ct_of cJ3_checkIndex_8e157 3 (some .int) RJ3 hG.2.2.2.1 (by decide) rfl rfl (by simp only [lg_sl, List.flatMap_cons, List.flatMap_nil, hv1]; exact Nat.le_of_ble_eq_true rfl) rfl (fun E C => ?_)
  unfold f_J3_checkIndex_8e157
  refine ky_iload_n C dJ3_checkIndex_8e157_0 0 rfl ?_
  refine ky_if_lt C 9 dJ3_checkIndex_8e157_1 (by decide) ?_ ?_
  · exact ky_none
  · refine ky_iload_n C dJ3_checkIndex_8e157_4 0 rfl ?_
    refine ky_iload_n C dJ3_checkIndex_8e157_5 1 rfl ?_
    refine ky_icmp_lt C 16 dJ3_checkIndex_8e157_6 (by decide) ?_ ?_
    · refine ky_iload_n C dJ3_checkIndex_8e157_16 0 rfl ?_
      exact ky_iret C dJ3_checkIndex_8e157_17
    · exact ky_none
def rmJ0_checkIndex_df160 : Room := { frames := 1, cells := 0, slots := 0, locals := 22 }
theorem hd_J0_checkIndex_df160 : yJ0_checkIndex_df160.cls ≠ "java/lang/invoke/MethodHandle" ∧ yJ0_checkIndex_df160.cls ≠ "java/lang/invoke/VarHandle" ∧ (parseMethodDescriptor yJ0_checkIndex_df160.desc).map (fun d => d.parameters.length) = some 2 := ⟨by decide, by decide, by decide +kernel⟩
def f_J0_checkIndex_df160 (F : Nat) (a0 : Int32) (a1 : Int32) (M : Mem) : Option (Unit × Mem) := bd (f_J3_checkIndex_8e157 F a0 a1 M) (fun r1 M2 => some ((), M2))
set_option maxRecDepth 100000 in
set_option maxHeartbeats 4000000 in
theorem c_J0_checkIndex_df160 {G : KyG} {cy : Nat → ClassId} (hG : IsC G cy) (F : Nat)  (a0 : Int32) (a1 : Int32) (M : Mem)  : Ct G yJ0_checkIndex_df160 (wY yJ0_checkIndex_df160 cJ0_checkIndex_df160 2 none) rmJ0_checkIndex_df160 rV [.int a0, .int a1] (f_J0_checkIndex_df160 F a0 a1 M) M := by
  refine Ct_of cJ0_checkIndex_df160 2 none RJ0 hG.2.2.2.1 (by decide) rfl rfl (Nat.le_of_ble_eq_true rfl) rfl (fun E C => ?_)
  unfold f_J0_checkIndex_df160
  refine ky_iload_n C dJ0_checkIndex_df160_0 0 rfl ?_
  refine ky_iload_n C dJ0_checkIndex_df160_1 1 rfl ?_
  refine ky_getSF C hG (wY_in tw_1_228) dJ0_checkIndex_df160_2 (fun v1 hv1 => ?_)
  refine ky_callSi C (c_J3_checkIndex_8e157 hG F v1 hv1 a0 a1 M ) (wY_goodS tw_1_230 tw_1_231 tw_1_10 tw_1_232) hd_J3_checkIndex_8e157 ⟨rfl, rfl, by decide, by decide⟩ rfl rfl (Nat.le_of_ble_eq_true rfl) dJ0_checkIndex_df160_5 (fun r1 M2 => ?_)
  refine ky_pop C dJ0_checkIndex_df160_8 rfl ?_
  exact ky_vret C dJ0_checkIndex_df160_9
def rmJ1_charAt_3b067 : Room := { frames := 2, cells := 0, slots := 0, locals := 43 }
theorem hd_J1_charAt_3b067 : yJ1_charAt_3b067.cls ≠ "java/lang/invoke/MethodHandle" ∧ yJ1_charAt_3b067.cls ≠ "java/lang/invoke/VarHandle" ∧ (parseMethodDescriptor yJ1_charAt_3b067.desc).map (fun d => d.parameters.length) = some 2 := ⟨by decide, by decide, by decide +kernel⟩
def f_J1_charAt_3b067 (F : Nat) (a1 : Int32) (M : Mem) : Option (Int32 × Mem) := bd (f_J0_checkIndex_df160 F a1 (10 : Int32) M) (fun r1 M2 => gi a1 10 (some ((((bytS a1.toNatClampNeg) &&& (255 : Int32)).toUInt32 % 65536).toInt32, M2)))
set_option maxRecDepth 100000 in
set_option maxHeartbeats 4000000 in
theorem c_J1_charAt_3b067 {G : KyG} {cy : Nat → ClassId} (hG : IsC G cy) (F : Nat)  (a1 : Int32) (M : Mem)  : Ct G yJ1_charAt_3b067 (wY yJ1_charAt_3b067 cJ1_charAt_3b067 2 (some .char)) rmJ1_charAt_3b067 rI [.ref (gA G 37), .int a1] (f_J1_charAt_3b067 F a1 M) M := by
  refine Ct_of cJ1_charAt_3b067 2 (some .char) RJ1 hG.2.2.2.1 (by decide) rfl rfl (Nat.le_of_ble_eq_true rfl) rfl (fun E C => ?_)
  unfold f_J1_charAt_3b067
  refine ky_iload_n C dJ1_charAt_3b067_0 1 rfl ?_
  refine ky_aload_n C dJ1_charAt_3b067_1 0 rfl ?_
  refine ky_alenS C hG dJ1_charAt_3b067_2 ?_
  refine ky_callSv C (c_J0_checkIndex_df160 hG F a1 (10 : Int32) M ) (wY_goodS tw_1_225 tw_1_226 tw_1_8 tw_1_227) hd_J0_checkIndex_df160 ⟨rfl, rfl, by decide, by decide⟩ rfl rfl (Nat.le_of_ble_eq_true rfl) dJ1_charAt_3b067_3 (fun r1 M2 => ?_)
  refine ky_aload_n C dJ1_charAt_3b067_6 0 rfl ?_
  refine ky_iload_n C dJ1_charAt_3b067_7 1 rfl ?_
  refine ky_baldS C hG dJ1_charAt_3b067_8 (fun hx3 => ?_)
  refine ky_sipush C (255 : Int32) dJ1_charAt_3b067_9 (by decide) ?_
  refine ky_iand C dJ1_charAt_3b067_12 ?_
  refine ky_i2c C dJ1_charAt_3b067_13 ?_
  exact ky_cret C (pk_nc _) dJ1_charAt_3b067_14
def rmJ0_charAt_5068e : Room := { frames := 3, cells := 0, slots := 0, locals := 64 }
theorem hd_J0_charAt_5068e : yJ0_charAt_5068e.cls = RJ0 ∧ yJ0_charAt_5068e.cls ≠ "java/lang/invoke/MethodHandle" ∧ yJ0_charAt_5068e.cls ≠ "java/lang/invoke/VarHandle" ∧ (parseMethodDescriptor yJ0_charAt_5068e.desc).map (fun d => d.parameters.length) = some 1 := ⟨rfl, by decide, by decide, by decide +kernel⟩
def f_J0_charAt_5068e (F : Nat) (a1 : Int32) (M : Mem) : Option (Int32 × Mem) := bd (f_J0_isLatin1_aae02 F M) (fun r1 M2 => if r1 = 0 then none else (bd (f_J1_charAt_3b067 F a1 M2) (fun r3 M4 => gc r3 (some (r3, M4)))))
set_option maxRecDepth 100000 in
set_option maxHeartbeats 4000000 in
theorem c_J0_charAt_5068e {G : KyG} {cy : Nat → ClassId} (hG : IsC G cy) (F : Nat)  (a1 : Int32) (M : Mem)  : Ct G yJ0_charAt_5068e (wY yJ0_charAt_5068e cJ0_charAt_5068e 2 (some .char)) rmJ0_charAt_5068e rI [.ref (gA G 36), .int a1] (f_J0_charAt_5068e F a1 M) M := by
  refine Ct_of cJ0_charAt_5068e 2 (some .char) RJ0 hG.2.2.2.1 (by decide) rfl rfl (Nat.le_of_ble_eq_true rfl) rfl (fun E C => ?_)
  unfold f_J0_charAt_5068e
  refine ky_aload_n C dJ0_charAt_5068e_0 0 rfl ?_
  refine ky_callStri C hG (c_J0_isLatin1_aae02 hG F M ) (wY_goodV tw_1_218 tw_1_219 tw_1_220 tw_1_8 tw_1_221) hd_J0_isLatin1_aae02 ⟨rfl, rfl, by decide, by decide⟩ rfl rfl (Nat.le_of_ble_eq_true rfl) dJ0_charAt_5068e_1 (fun r1 M2 => ?_)
  refine ky_if_eq C 16 dJ0_charAt_5068e_4 (by decide) ?_ ?_
  · exact ky_none
  · refine ky_aload_n C dJ0_charAt_5068e_7 0 rfl ?_
    refine ky_getSvalue C hG (wY_in tw_4_140) dJ0_charAt_5068e_8 ?_
    refine ky_iload_n C dJ0_charAt_5068e_11 1 rfl ?_
    refine ky_callSi C (c_J1_charAt_3b067 hG F a1 M2 ) (wY_goodS tw_1_222 tw_1_223 tw_1_9 tw_1_224) hd_J1_charAt_3b067 ⟨rfl, rfl, by decide, by decide⟩ rfl rfl (Nat.le_of_ble_eq_true rfl) dJ0_charAt_5068e_12 (fun r3 M4 => ?_)
    exact ky_cretG C dJ0_charAt_5068e_15
