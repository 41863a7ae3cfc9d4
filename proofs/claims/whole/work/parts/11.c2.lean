def rmX2_leftTo : Room := { frames := 1, cells := 0, slots := 0, locals := 20 }
theorem hd_X2_leftTo : yX2_leftTo.cls = RX2 ∧ yX2_leftTo.cls ≠ "java/lang/invoke/MethodHandle" ∧ yX2_leftTo.cls ≠ "java/lang/invoke/VarHandle" ∧ (parseMethodDescriptor yX2_leftTo.desc).map (fun d => d.parameters.length) = some 1 := ⟨rfl, by decide, by decide, by decide +kernel⟩
def f_X2_leftTo (F : Nat) (k0 : Nat) (k1 : Nat) (M : Mem) : Option (Int32 × Mem) := gi (M.1 k1 1) 3 (bd (f_X3_trueAndNew F (k0 + 3 + (M.1 k1 1).toNatClampNeg) M) (fun r2 M3 => some ((M.1 k1 3) &&& r2, M3)))
set_option maxRecDepth 100000 in
set_option maxHeartbeats 4000000 in
theorem c_X2_leftTo {G : KyG} {cy : Nat → ClassId} (hG : IsC G cy) (F : Nat)  (k0 : Nat) (k1 : Nat) (M : Mem) (hk0 : isTw k0) (hk1 : isCv k1) : Ct G yX2_leftTo (wY yX2_leftTo cX2_leftTo 2 (some .int)) rmX2_leftTo rI [.ref (gA G k0), .ref (gA G k1)] (f_X2_leftTo F k0 k1 M) M := by
  refine Ct_of cX2_leftTo 2 (some .int) RX2 hG.2.2.2.1 (by decide) rfl rfl (Nat.le_of_ble_eq_true rfl) rfl (fun E C => ?_)
  unfold f_X2_leftTo
  refine ky_aload_n C dX2_leftTo_0 1 rfl ?_
  refine ky_get C (ltC hG hk1) (ceC hG hk1) rfl inWX0 3 (by decide) (wY_in tw_1_72) rfl rfl dX2_leftTo_1 ?_
  refine ky_aload_n C dX2_leftTo_4 0 rfl ?_
  refine ky_get C (ltT hG hk0) (ceT hG hk0) rfl inWX2 0 (by decide) (wY_in tw_1_93) rfl rfl dX2_leftTo_5 ?_
  refine ky_aload_n C dX2_leftTo_8 1 rfl ?_
  refine ky_get C (ltC hG hk1) (ceC hG hk1) rfl inWX0 1 (by decide) (wY_in tw_1_66) rfl rfl dX2_leftTo_9 ?_
  refine ky_aald C (ltVA hG hk0) (ceVA hG hk0) (tC2 hG) dX2_leftTo_12 (fun hx1 => ?_)
  refine ky_callVi C (c_X3_trueAndNew hG F (k0 + 3 + (M.1 k1 1).toNatClampNeg) M (isVi_of hk0 hx1)) (ltV hG (isVi_of hk0 hx1)) (ceV hG (isVi_of hk0 hx1)) rfl (wY_goodV tw_2_87 tw_2_88 tw_2_89 tw_1_3 tw_2_90) hd_X3_trueAndNew ⟨rfl, rfl, by decide, by decide⟩ rfl rfl (Nat.le_of_ble_eq_true rfl) dX2_leftTo_13 (fun r2 M3 => ?_)
  refine ky_iand C dX2_leftTo_16 ?_
  exact ky_iret C dX2_leftTo_17
def rmX2_allConvicts : Room := { frames := 0, cells := 0, slots := 0, locals := 0 }
theorem hd_X2_allConvicts : yX2_allConvicts.cls = RX2 ∧ yX2_allConvicts.cls ≠ "java/lang/invoke/MethodHandle" ∧ yX2_allConvicts.cls ≠ "java/lang/invoke/VarHandle" ∧ (parseMethodDescriptor yX2_allConvicts.desc).map (fun d => d.parameters.length) = some 0 := ⟨rfl, by decide, by decide, by decide +kernel⟩
def f_X2_allConvicts (F : Nat) (k0 : Nat) (M : Mem) : Option (Int32 × Mem) := some (((1 : Int32) <<< ((M.1 k0 2) &&& 31)) - (1 : Int32), M)
set_option maxRecDepth 100000 in
set_option maxHeartbeats 4000000 in
theorem c_X2_allConvicts {G : KyG} {cy : Nat → ClassId} (hG : IsC G cy) (F : Nat)  (k0 : Nat) (M : Mem) (hk0 : isTw k0) : Ct G yX2_allConvicts (wY yX2_allConvicts cX2_allConvicts 1 (some .int)) rmX2_allConvicts rI [.ref (gA G k0)] (f_X2_allConvicts F k0 M) M := by
  refine Ct_of cX2_allConvicts 1 (some .int) RX2 hG.2.2.2.1 (by decide) rfl rfl (Nat.le_of_ble_eq_true rfl) rfl (fun E C => ?_)
  unfold f_X2_allConvicts
  refine ky_iconst C (1 : Int32) dX2_allConvicts_0 (by decide) ?_
  refine ky_aload_n C dX2_allConvicts_1 0 rfl ?_
  refine ky_get C (ltT hG hk0) (ceT hG hk0) rfl inWX2 2 (by decide) (wY_in tw_1_99) rfl rfl dX2_allConvicts_2 ?_
  refine ky_ishl C dX2_allConvicts_5 ?_
  refine ky_iconst C (1 : Int32) dX2_allConvicts_6 (by decide) ?_
  refine ky_isub C dX2_allConvicts_7 ?_
  exact ky_iret C dX2_allConvicts_8
def rmX2_beginNextDay : Room := { frames := 1, cells := 0, slots := 0, locals := 20 }
theorem hd_X2_beginNextDay : yX2_beginNextDay.cls = RX2 ∧ yX2_beginNextDay.cls ≠ "java/lang/invoke/MethodHandle" ∧ yX2_beginNextDay.cls ≠ "java/lang/invoke/VarHandle" ∧ (parseMethodDescriptor yX2_beginNextDay.desc).map (fun d => d.parameters.length) = some 0 := ⟨rfl, by decide, by decide, by decide +kernel⟩
def LX2_beginNextDay_12 (F : Nat)  : Nat → Nat → Int32 → Mem → Option (Unit × Mem)
  | 0, _, _, _ => none
  | n + 1, kv0, xv1, M => if (M.1 kv0 2) ≤ xv1 then (some ((), M)) else (gi xv1 4 (gi xv1 4 (bd (f_X0_mayEachDay F (kv0 + 6 + xv1.toNatClampNeg) M) (fun r5 M6 => nm (u2 M6 (kv0 + 6 + xv1.toNatClampNeg) 4 r5) (fun M7 => nm (xv1 + (1 : Int32)) (fun x8 => LX2_beginNextDay_12 F n kv0 x8 M7))))))
theorem LX2_beginNextDay_12_s (F : Nat)  (n : Nat) (kv0 : Nat) (xv1 : Int32) (M : Mem) : LX2_beginNextDay_12 F (n + 1) kv0 xv1 M = (if (M.1 kv0 2) ≤ xv1 then (some ((), M)) else (gi xv1 4 (gi xv1 4 (bd (f_X0_mayEachDay F (kv0 + 6 + xv1.toNatClampNeg) M) (fun r5 M6 => nm (u2 M6 (kv0 + 6 + xv1.toNatClampNeg) 4 r5) (fun M7 => nm (xv1 + (1 : Int32)) (fun x8 => LX2_beginNextDay_12 F n kv0 x8 M7))))))) := rfl
set_option maxRecDepth 100000 in
set_option maxHeartbeats 4000000 in
theorem lX2_beginNextDay_12 {G : KyG} {cy : Nat → ClassId} (hG : IsC G cy) {E : KyE} (C : Cx G E cX2_beginNextDay 2 RX2 (wY yX2_beginNextDay cX2_beginNextDay 2 none) none rmX2_beginNextDay) (F : Nat)   : ∀ (n : Nat) (kv0 : Nat) (xv1 : Int32) (M : Mem) (hkv0 : isTw kv0), Wo G E 2 rV (LX2_beginNextDay_12 F n kv0 xv1 M) M 12 [(0, .ref (gA G kv0)), (1, .int xv1)] [] := by
  intro n
  induction n with
  | zero => intro kv0 xv1 M hkv0; exact ky_none
  | succ n ih =>
    intro kv0 xv1 M hkv0
    rw [LX2_beginNextDay_12_s]
    refine ky_iload_n C dX2_beginNextDay_12 1 rfl ?_
    refine ky_aload_n C dX2_beginNextDay_13 0 rfl ?_
    refine ky_get C (ltT hG hkv0) (ceT hG hkv0) rfl inWX2 2 (by decide) (wY_in tw_1_99) rfl rfl dX2_beginNextDay_14 ?_
    refine ky_icmp_ge C 44 dX2_beginNextDay_17 (by decide) ?_ ?_
    · exact ky_vret C dX2_beginNextDay_44
    · refine ky_aload_n C dX2_beginNextDay_20 0 rfl ?_
      refine ky_get C (ltT hG hkv0) (ceT hG hkv0) rfl inWX2 1 (by decide) (wY_in tw_1_95) rfl rfl dX2_beginNextDay_21 ?_
      refine ky_iload_n C dX2_beginNextDay_24 1 rfl ?_
      refine ky_aald C (ltCA hG hkv0) (ceCA hG hkv0) (tC3 hG) dX2_beginNextDay_25 (fun hx3 => ?_)
      refine ky_aload_n C dX2_beginNextDay_26 0 rfl ?_
      refine ky_get C (ltT hG hkv0) (ceT hG hkv0) rfl inWX2 1 (by decide) (wY_in tw_1_95) rfl rfl dX2_beginNextDay_27 ?_
      refine ky_iload_n C dX2_beginNextDay_30 1 rfl ?_
      refine ky_aald C (ltCA hG hkv0) (ceCA hG hkv0) (tC3 hG) dX2_beginNextDay_31 (fun hx4 => ?_)
      refine ky_callVi C (c_X0_mayEachDay hG F (kv0 + 6 + xv1.toNatClampNeg) M (isCv_of hkv0 hx4)) (ltC hG (isCv_of hkv0 hx4)) (ceC hG (isCv_of hkv0 hx4)) rfl (wY_goodV tw_2_105 tw_2_72 tw_2_73 tw_1_4 tw_2_74) hd_X0_mayEachDay ⟨rfl, rfl, by decide, by decide⟩ rfl rfl (Nat.le_of_ble_eq_true rfl) dX2_beginNextDay_32 (fun r5 M6 => ?_)
      refine ky_put C (ltC hG (isCv_of hkv0 hx3)) (ceC hG (isCv_of hkv0 hx3)) rfl inWX0 tyX0_ok nmX0 4 (by decide) (wY_in tw_1_76) ⟨rfl, rfl⟩ (tyX0_ok 4 (by decide)) rfl rfl (Nat.le_of_ble_eq_true rfl) rfl dX2_beginNextDay_35 (fun M7 => ?_)
      refine ky_iinc (lv' := fun x8 => [(1, .int x8), (0, .ref (gA G kv0))]) C dX2_beginNextDay_38 1 rfl (d1 := (1 : Int32)) rfl (by decide) (fun _ => rfl) (fun x8 => ?_)
      refine ky_goto C 12 dX2_beginNextDay_41 (by decide) ?_
      exact ky_sub [1, 0] rfl (ih kv0 x8 M7 hkv0)
def f_X2_beginNextDay (F : Nat) (k0 : Nat) (M : Mem) : Option (Unit × Mem) := nm ((M.1 k0 4) + (1 : Int32)) (fun x1 => nm (u2 M k0 4 x1) (fun M2 => LX2_beginNextDay_12 F  F k0 (0 : Int32) M2))
set_option maxRecDepth 100000 in
set_option maxHeartbeats 4000000 in
theorem c_X2_beginNextDay {G : KyG} {cy : Nat → ClassId} (hG : IsC G cy) (F : Nat)  (k0 : Nat) (M : Mem) (hk0 : isTw k0) : Ct G yX2_beginNextDay (wY yX2_beginNextDay cX2_beginNextDay 2 none) rmX2_beginNextDay rV [.ref (gA G k0)] (f_X2_beginNextDay F k0 M) M := by
  refine Ct_of cX2_beginNextDay 2 none RX2 hG.2.2.2.1 (by decide) rfl rfl (Nat.le_of_ble_eq_true rfl) rfl (fun E C => ?_)
  unfold f_X2_beginNextDay
  refine ky_aload_n C dX2_beginNextDay_0 0 rfl ?_
  refine ky_dup C dX2_beginNextDay_1 rfl ?_
  refine ky_get C (ltT hG hk0) (ceT hG hk0) rfl inWX2 4 (by decide) (wY_in tw_1_105) rfl rfl dX2_beginNextDay_2 ?_
  refine ky_iconst C (1 : Int32) dX2_beginNextDay_5 (by decide) ?_
  refine ky_iadd C dX2_beginNextDay_6 ?_
  refine ky_nmi (fun x1 => ?_)
  refine ky_put C (ltT hG hk0) (ceT hG hk0) rfl inWX2 tyX2_ok nmX2 4 (by decide) (wY_in tw_1_105) ⟨rfl, rfl⟩ (tyX2_ok 4 (by decide)) rfl rfl (Nat.le_of_ble_eq_true rfl) rfl dX2_beginNextDay_7 (fun M2 => ?_)
  refine ky_iconst C (0 : Int32) dX2_beginNextDay_10 (by decide) ?_
  refine ky_istore_n (lv' := [(1, .int (0 : Int32)), (0, .ref (gA G k0))]) C dX2_beginNextDay_11 (by decide) rfl ?_
  exact ky_sub [1, 0] rfl (lX2_beginNextDay_12 hG C F   F k0 (0 : Int32) M2 hk0)
def rmX2_clear : Room := { frames := 2, cells := 0, slots := 0, locals := 40 }
theorem hd_X2_clear : yX2_clear.cls = RX2 ∧ yX2_clear.cls ≠ "java/lang/invoke/MethodHandle" ∧ yX2_clear.cls ≠ "java/lang/invoke/VarHandle" ∧ (parseMethodDescriptor yX2_clear.desc).map (fun d => d.parameters.length) = some 0 := ⟨rfl, by decide, by decide, by decide +kernel⟩
def LX2_clear_2 (F : Nat)  : Nat → Nat → Int32 → Mem → Option (Unit × Mem)
  | 0, _, _, _ => none
  | n + 1, kv0, xv1, M => if (3 : Int32) ≤ xv1 then (nm (u2 M kv0 2 (0 : Int32)) (fun M1 => nm (u2 M1 kv0 3 (0 : Int32)) (fun M2 => nm (u2 M2 kv0 4 (0 : Int32)) (fun M3 => nm (u2 M3 kv0 5 (0 : Int32)) (fun M4 => some ((), M4)))))) else (gi xv1 3 (bd (f_X3_clear F (kv0 + 3 + xv1.toNatClampNeg) M) (fun r6 M7 => nm (xv1 + (1 : Int32)) (fun x8 => LX2_clear_2 F n kv0 x8 M7))))
theorem LX2_clear_2_s (F : Nat)  (n : Nat) (kv0 : Nat) (xv1 : Int32) (M : Mem) : LX2_clear_2 F (n + 1) kv0 xv1 M = (if (3 : Int32) ≤ xv1 then (nm (u2 M kv0 2 (0 : Int32)) (fun M1 => nm (u2 M1 kv0 3 (0 : Int32)) (fun M2 => nm (u2 M2 kv0 4 (0 : Int32)) (fun M3 => nm (u2 M3 kv0 5 (0 : Int32)) (fun M4 => some ((), M4)))))) else (gi xv1 3 (bd (f_X3_clear F (kv0 + 3 + xv1.toNatClampNeg) M) (fun r6 M7 => nm (xv1 + (1 : Int32)) (fun x8 => LX2_clear_2 F n kv0 x8 M7))))) := rfl
set_option maxRecDepth 100000 in
set_option maxHeartbeats 4000000 in
theorem lX2_clear_2 {G : KyG} {cy : Nat → ClassId} (hG : IsC G cy) {E : KyE} (C : Cx G E cX2_clear 2 RX2 (wY yX2_clear cX2_clear 2 none) none rmX2_clear) (F : Nat)   : ∀ (n : Nat) (kv0 : Nat) (xv1 : Int32) (M : Mem) (hkv0 : isTw kv0), Wo G E 2 rV (LX2_clear_2 F n kv0 xv1 M) M 2 [(0, .ref (gA G kv0)), (1, .int xv1)] [] := by
  intro n
  induction n with
  | zero => intro kv0 xv1 M hkv0; exact ky_none
  | succ n ih =>
    intro kv0 xv1 M hkv0
    rw [LX2_clear_2_s]
    refine ky_iload_n C dX2_clear_2 1 rfl ?_
    refine ky_iconst C (3 : Int32) dX2_clear_3 (by decide) ?_
    refine ky_icmp_ge C 22 dX2_clear_4 (by decide) ?_ ?_
    · refine ky_aload_n C dX2_clear_22 0 rfl ?_
      refine ky_iconst C (0 : Int32) dX2_clear_23 (by decide) ?_
      refine ky_put C (ltT hG hkv0) (ceT hG hkv0) rfl inWX2 tyX2_ok nmX2 2 (by decide) (wY_in tw_1_99) ⟨rfl, rfl⟩ (tyX2_ok 2 (by decide)) rfl rfl (Nat.le_of_ble_eq_true rfl) rfl dX2_clear_24 (fun M1 => ?_)
      refine ky_aload_n C dX2_clear_27 0 rfl ?_
      refine ky_iconst C (0 : Int32) dX2_clear_28 (by decide) ?_
      refine ky_put C (ltT hG hkv0) (ceT hG hkv0) rfl inWX2 tyX2_ok nmX2 3 (by decide) (wY_in tw_1_103) ⟨rfl, rfl⟩ (tyX2_ok 3 (by decide)) rfl rfl (Nat.le_of_ble_eq_true rfl) rfl dX2_clear_29 (fun M2 => ?_)
      refine ky_aload_n C dX2_clear_32 0 rfl ?_
      refine ky_iconst C (0 : Int32) dX2_clear_33 (by decide) ?_
      refine ky_put C (ltT hG hkv0) (ceT hG hkv0) rfl inWX2 tyX2_ok nmX2 4 (by decide) (wY_in tw_1_105) ⟨rfl, rfl⟩ (tyX2_ok 4 (by decide)) rfl rfl (Nat.le_of_ble_eq_true rfl) rfl dX2_clear_34 (fun M3 => ?_)
      refine ky_aload_n C dX2_clear_37 0 rfl ?_
      refine ky_iconst C (0 : Int32) dX2_clear_38 (by decide) ?_
      refine ky_put C (ltT hG hkv0) (ceT hG hkv0) rfl inWX2 tyX2_ok nmX2 5 (by decide) (wY_in tw_1_107) ⟨rfl, rfl⟩ (tyX2_ok 5 (by decide)) rfl rfl (Nat.le_of_ble_eq_true rfl) rfl dX2_clear_39 (fun M4 => ?_)
      exact ky_vret C dX2_clear_42
    · refine ky_aload_n C dX2_clear_7 0 rfl ?_
      refine ky_get C (ltT hG hkv0) (ceT hG hkv0) rfl inWX2 0 (by decide) (wY_in tw_1_93) rfl rfl dX2_clear_8 ?_
      refine ky_iload_n C dX2_clear_11 1 rfl ?_
      refine ky_aald C (ltVA hG hkv0) (ceVA hG hkv0) (tC2 hG) dX2_clear_12 (fun hx5 => ?_)
      refine ky_callVv C (c_X3_clear hG F (kv0 + 3 + xv1.toNatClampNeg) M (isVi_of hkv0 hx5)) (ltV hG (isVi_of hkv0 hx5)) (ceV hG (isVi_of hkv0 hx5)) rfl (wY_goodV tw_2_22 tw_2_23 tw_2_24 tw_1_3 tw_2_25) hd_X3_clear ⟨rfl, rfl, by decide, by decide⟩ rfl rfl (Nat.le_of_ble_eq_true rfl) dX2_clear_13 (fun r6 M7 => ?_)
      refine ky_iinc (lv' := fun x8 => [(1, .int x8), (0, .ref (gA G kv0))]) C dX2_clear_16 1 rfl (d1 := (1 : Int32)) rfl (by decide) (fun _ => rfl) (fun x8 => ?_)
      refine ky_goto C 2 dX2_clear_19 (by decide) ?_
      exact ky_sub [1, 0] rfl (ih kv0 x8 M7 hkv0)
def f_X2_clear (F : Nat) (k0 : Nat) (M : Mem) : Option (Unit × Mem) := LX2_clear_2 F  F k0 (0 : Int32) M
set_option maxRecDepth 100000 in
set_option maxHeartbeats 4000000 in
theorem c_X2_clear {G : KyG} {cy : Nat → ClassId} (hG : IsC G cy) (F : Nat)  (k0 : Nat) (M : Mem) (hk0 : isTw k0) : Ct G yX2_clear (wY yX2_clear cX2_clear 2 none) rmX2_clear rV [.ref (gA G k0)] (f_X2_clear F k0 M) M := by
  refine Ct_of cX2_clear 2 none RX2 hG.2.2.2.1 (by decide) rfl rfl (Nat.le_of_ble_eq_true rfl) rfl (fun E C => ?_)
  unfold f_X2_clear
  refine ky_iconst C (0 : Int32) dX2_clear_0 (by decide) ?_
  refine ky_istore_n (lv' := [(1, .int (0 : Int32)), (0, .ref (gA G k0))]) C dX2_clear_1 (by decide) rfl ?_
  exact ky_sub [1, 0] rfl (lX2_clear_2 hG C F   F k0 (0 : Int32) M hk0)
def rmX2_convictsOf : Room := { frames := 0, cells := 0, slots := 0, locals := 0 }
theorem hd_X2_convictsOf : yX2_convictsOf.cls = RX2 ∧ yX2_convictsOf.cls ≠ "java/lang/invoke/MethodHandle" ∧ yX2_convictsOf.cls ≠ "java/lang/invoke/VarHandle" ∧ (parseMethodDescriptor yX2_convictsOf.desc).map (fun d => d.parameters.length) = some 1 := ⟨rfl, by decide, by decide, by decide +kernel⟩
def LX2_convictsOf_4 (F : Nat)  : Nat → Nat → Int32 → Int32 → Int32 → Mem → Option (Int32 × Mem)
  | 0, _, _, _, _, _ => none
  | n + 1, kv0, xv1, xv2, xv3, M => if (M.1 kv0 2) ≤ xv3 then (some (xv2, M)) else (gi xv3 4 (if (M.1 (kv0 + 6 + xv3.toNatClampNeg) 1) = xv1 then (nm (xv2 ||| ((1 : Int32) <<< (xv3 &&& 31))) (fun x3 => nm (xv3 + (1 : Int32)) (fun x4 => LX2_convictsOf_4 F n kv0 xv1 x3 x4 M))) else (nm (xv3 + (1 : Int32)) (fun x2 => LX2_convictsOf_4 F n kv0 xv1 xv2 x2 M))))
theorem LX2_convictsOf_4_s (F : Nat)  (n : Nat) (kv0 : Nat) (xv1 : Int32) (xv2 : Int32) (xv3 : Int32) (M : Mem) : LX2_convictsOf_4 F (n + 1) kv0 xv1 xv2 xv3 M = (if (M.1 kv0 2) ≤ xv3 then (some (xv2, M)) else (gi xv3 4 (if (M.1 (kv0 + 6 + xv3.toNatClampNeg) 1) = xv1 then (nm (xv2 ||| ((1 : Int32) <<< (xv3 &&& 31))) (fun x3 => nm (xv3 + (1 : Int32)) (fun x4 => LX2_convictsOf_4 F n kv0 xv1 x3 x4 M))) else (nm (xv3 + (1 : Int32)) (fun x2 => LX2_convictsOf_4 F n kv0 xv1 xv2 x2 M))))) := rfl
set_option maxRecDepth 100000 in
set_option maxHeartbeats 4000000 in
theorem lX2_convictsOf_4 {G : KyG} {cy : Nat → ClassId} (hG : IsC G cy) {E : KyE} (C : Cx G E cX2_convictsOf 4 RX2 (wY yX2_convictsOf cX2_convictsOf 4 (some .int)) (some .int) rmX2_convictsOf) (F : Nat)   : ∀ (n : Nat) (kv0 : Nat) (xv1 : Int32) (xv2 : Int32) (xv3 : Int32) (M : Mem) (hkv0 : isTw kv0), Wo G E 4 rI (LX2_convictsOf_4 F n kv0 xv1 xv2 xv3 M) M 4 [(0, .ref (gA G kv0)), (1, .int xv1), (2, .int xv2), (3, .int xv3)] [] := by
  intro n
  induction n with
  | zero => intro kv0 xv1 xv2 xv3 M hkv0; exact ky_none
  | succ n ih =>
    intro kv0 xv1 xv2 xv3 M hkv0
    rw [LX2_convictsOf_4_s]
    refine ky_iload_n C dX2_convictsOf_4 3 rfl ?_
    refine ky_aload_n C dX2_convictsOf_5 0 rfl ?_
    refine ky_get C (ltT hG hkv0) (ceT hG hkv0) rfl inWX2 2 (by decide) (wY_in tw_1_99) rfl rfl dX2_convictsOf_6 ?_
    refine ky_icmp_ge C 37 dX2_convictsOf_9 (by decide) ?_ ?_
    · refine ky_iload_n C dX2_convictsOf_37 2 rfl ?_
      exact ky_iret C dX2_convictsOf_38
    · refine ky_aload_n C dX2_convictsOf_12 0 rfl ?_
      refine ky_get C (ltT hG hkv0) (ceT hG hkv0) rfl inWX2 1 (by decide) (wY_in tw_1_95) rfl rfl dX2_convictsOf_13 ?_
      refine ky_iload_n C dX2_convictsOf_16 3 rfl ?_
      refine ky_aald C (ltCA hG hkv0) (ceCA hG hkv0) (tC3 hG) dX2_convictsOf_17 (fun hx1 => ?_)
      refine ky_get C (ltC hG (isCv_of hkv0 hx1)) (ceC hG (isCv_of hkv0 hx1)) rfl inWX0 1 (by decide) (wY_in tw_1_66) rfl rfl dX2_convictsOf_18 ?_
      refine ky_iload_n C dX2_convictsOf_21 1 rfl ?_
      refine ky_icmp_ne C 31 dX2_convictsOf_22 (by decide) ?_ ?_
      · refine ky_iload_n C dX2_convictsOf_25 2 rfl ?_
        refine ky_iconst C (1 : Int32) dX2_convictsOf_26 (by decide) ?_
        refine ky_iload_n C dX2_convictsOf_27 3 rfl ?_
        refine ky_ishl C dX2_convictsOf_28 ?_
        refine ky_ior C dX2_convictsOf_29 ?_
        refine ky_nmi (fun x3 => ?_)
        refine ky_istore_n (lv' := [(2, .int x3), (0, .ref (gA G kv0)), (1, .int xv1), (3, .int xv3)]) C dX2_convictsOf_30 (by decide) rfl ?_
        refine ky_iinc (lv' := fun x4 => [(3, .int x4), (2, .int x3), (0, .ref (gA G kv0)), (1, .int xv1)]) C dX2_convictsOf_31 3 rfl (d1 := (1 : Int32)) rfl (by decide) (fun _ => rfl) (fun x4 => ?_)
        refine ky_goto C 4 dX2_convictsOf_34 (by decide) ?_
        exact ky_sub [2, 3, 1, 0] rfl (ih kv0 xv1 x3 x4 M hkv0)
      · refine ky_iinc (lv' := fun x2 => [(3, .int x2), (0, .ref (gA G kv0)), (1, .int xv1), (2, .int xv2)]) C dX2_convictsOf_31 3 rfl (d1 := (1 : Int32)) rfl (by decide) (fun _ => rfl) (fun x2 => ?_)
        refine ky_goto C 4 dX2_convictsOf_34 (by decide) ?_
        exact ky_sub [1, 2, 3, 0] rfl (ih kv0 xv1 xv2 x2 M hkv0)
def f_X2_convictsOf (F : Nat) (k0 : Nat) (a1 : Int32) (M : Mem) : Option (Int32 × Mem) := LX2_convictsOf_4 F  F k0 a1 (0 : Int32) (0 : Int32) M
set_option maxRecDepth 100000 in
set_option maxHeartbeats 4000000 in
theorem c_X2_convictsOf {G : KyG} {cy : Nat → ClassId} (hG : IsC G cy) (F : Nat)  (k0 : Nat) (a1 : Int32) (M : Mem) (hk0 : isTw k0) : Ct G yX2_convictsOf (wY yX2_convictsOf cX2_convictsOf 4 (some .int)) rmX2_convictsOf rI [.ref (gA G k0), .int a1] (f_X2_convictsOf F k0 a1 M) M := by
  refine Ct_of cX2_convictsOf 4 (some .int) RX2 hG.2.2.2.1 (by decide) rfl rfl (Nat.le_of_ble_eq_true rfl) rfl (fun E C => ?_)
  unfold f_X2_convictsOf
  refine ky_iconst C (0 : Int32) dX2_convictsOf_0 (by decide) ?_
  refine ky_istore_n (lv' := [(2, .int (0 : Int32)), (0, .ref (gA G k0)), (1, .int a1)]) C dX2_convictsOf_1 (by decide) rfl ?_
  refine ky_iconst C (0 : Int32) dX2_convictsOf_2 (by decide) ?_
  refine ky_istore_n (lv' := [(3, .int (0 : Int32)), (2, .int (0 : Int32)), (0, .ref (gA G k0)), (1, .int a1)]) C dX2_convictsOf_3 (by decide) rfl ?_
  exact ky_sub [2, 3, 1, 0] rfl (lX2_convictsOf_4 hG C F   F k0 a1 (0 : Int32) (0 : Int32) M hk0)
def rmX2_copy : Room := { frames := 1, cells := 0, slots := 0, locals := 21 }
theorem hd_X2_copy : yX2_copy.cls = RX2 ∧ yX2_copy.cls ≠ "java/lang/invoke/MethodHandle" ∧ yX2_copy.cls ≠ "java/lang/invoke/VarHandle" ∧ (parseMethodDescriptor yX2_copy.desc).map (fun d => d.parameters.length) = some 1 := ⟨rfl, by decide, by decide, by decide +kernel⟩
def LX2_copy_30 (F : Nat)  : Nat → Nat → Nat → Int32 → Mem → Option (Unit × Mem)
  | 0, _, _, _, _ => none
  | n + 1, kv0, kv1, xv2, M => if (4 : Int32) ≤ xv2 then (nm (M.1 kv1 2) (fun x1 => nm (u2 M kv0 2 x1) (fun M2 => nm (M2.1 kv1 3) (fun x3 => nm (u2 M2 kv0 3 x3) (fun M4 => nm (M4.1 kv1 4) (fun x5 => nm (u2 M4 kv0 4 x5) (fun M6 => nm (M6.1 kv1 5) (fun x7 => nm (u2 M6 kv0 5 x7) (fun M8 => some ((), M8)))))))))) else (gi xv2 4 (gi xv2 4 (bd (f_X0_copy F (kv0 + 6 + xv2.toNatClampNeg) (kv1 + 6 + xv2.toNatClampNeg) M) (fun r11 M12 => nm (xv2 + (1 : Int32)) (fun x13 => LX2_copy_30 F n kv0 kv1 x13 M12)))))
theorem LX2_copy_30_s (F : Nat)  (n : Nat) (kv0 : Nat) (kv1 : Nat) (xv2 : Int32) (M : Mem) : LX2_copy_30 F (n + 1) kv0 kv1 xv2 M = (if (4 : Int32) ≤ xv2 then (nm (M.1 kv1 2) (fun x1 => nm (u2 M kv0 2 x1) (fun M2 => nm (M2.1 kv1 3) (fun x3 => nm (u2 M2 kv0 3 x3) (fun M4 => nm (M4.1 kv1 4) (fun x5 => nm (u2 M4 kv0 4 x5) (fun M6 => nm (M6.1 kv1 5) (fun x7 => nm (u2 M6 kv0 5 x7) (fun M8 => some ((), M8)))))))))) else (gi xv2 4 (gi xv2 4 (bd (f_X0_copy F (kv0 + 6 + xv2.toNatClampNeg) (kv1 + 6 + xv2.toNatClampNeg) M) (fun r11 M12 => nm (xv2 + (1 : Int32)) (fun x13 => LX2_copy_30 F n kv0 kv1 x13 M12)))))) := rfl
set_option maxRecDepth 100000 in
set_option maxHeartbeats 4000000 in
theorem lX2_copy_30 {G : KyG} {cy : Nat → ClassId} (hG : IsC G cy) {E : KyE} (C : Cx G E cX2_copy 3 RX2 (wY yX2_copy cX2_copy 3 none) none rmX2_copy) (F : Nat)   : ∀ (n : Nat) (kv0 : Nat) (kv1 : Nat) (xv2 : Int32) (M : Mem) (hkv0 : isTw kv0) (hkv1 : isTw kv1), Wo G E 3 rV (LX2_copy_30 F n kv0 kv1 xv2 M) M 30 [(0, .ref (gA G kv0)), (1, .ref (gA G kv1)), (2, .int xv2)] [] := by
  intro n
  induction n with
  | zero => intro kv0 kv1 xv2 M hkv0 hkv1; exact ky_none
  | succ n ih =>
    intro kv0 kv1 xv2 M hkv0 hkv1
    rw [LX2_copy_30_s]
    refine ky_iload_n C dX2_copy_30 2 rfl ?_
    refine ky_iconst C (4 : Int32) dX2_copy_31 (by decide) ?_
    refine ky_icmp_ge C 56 dX2_copy_32 (by decide) ?_ ?_
    · refine ky_aload_n C dX2_copy_56 0 rfl ?_
      refine ky_aload_n C dX2_copy_57 1 rfl ?_
      refine ky_get C (ltT hG hkv1) (ceT hG hkv1) rfl inWX2 2 (by decide) (wY_in tw_1_99) rfl rfl dX2_copy_58 ?_
      refine ky_nmi (fun x1 => ?_)
      refine ky_put C (ltT hG hkv0) (ceT hG hkv0) rfl inWX2 tyX2_ok nmX2 2 (by decide) (wY_in tw_1_99) ⟨rfl, rfl⟩ (tyX2_ok 2 (by decide)) rfl rfl (Nat.le_of_ble_eq_true rfl) rfl dX2_copy_61 (fun M2 => ?_)
      refine ky_aload_n C dX2_copy_64 0 rfl ?_
      refine ky_aload_n C dX2_copy_65 1 rfl ?_
      refine ky_get C (ltT hG hkv1) (ceT hG hkv1) rfl inWX2 3 (by decide) (wY_in tw_1_103) rfl rfl dX2_copy_66 ?_
      refine ky_nmi (fun x3 => ?_)
      refine ky_put C (ltT hG hkv0) (ceT hG hkv0) rfl inWX2 tyX2_ok nmX2 3 (by decide) (wY_in tw_1_103) ⟨rfl, rfl⟩ (tyX2_ok 3 (by decide)) rfl rfl (Nat.le_of_ble_eq_true rfl) rfl dX2_copy_69 (fun M4 => ?_)
      refine ky_aload_n C dX2_copy_72 0 rfl ?_
      refine ky_aload_n C dX2_copy_73 1 rfl ?_
      refine ky_get C (ltT hG hkv1) (ceT hG hkv1) rfl inWX2 4 (by decide) (wY_in tw_1_105) rfl rfl dX2_copy_74 ?_
      refine ky_nmi (fun x5 => ?_)
      refine ky_put C (ltT hG hkv0) (ceT hG hkv0) rfl inWX2 tyX2_ok nmX2 4 (by decide) (wY_in tw_1_105) ⟨rfl, rfl⟩ (tyX2_ok 4 (by decide)) rfl rfl (Nat.le_of_ble_eq_true rfl) rfl dX2_copy_77 (fun M6 => ?_)
      refine ky_aload_n C dX2_copy_80 0 rfl ?_
      refine ky_aload_n C dX2_copy_81 1 rfl ?_
      refine ky_get C (ltT hG hkv1) (ceT hG hkv1) rfl inWX2 5 (by decide) (wY_in tw_1_107) rfl rfl dX2_copy_82 ?_
      refine ky_nmi (fun x7 => ?_)
      refine ky_put C (ltT hG hkv0) (ceT hG hkv0) rfl inWX2 tyX2_ok nmX2 5 (by decide) (wY_in tw_1_107) ⟨rfl, rfl⟩ (tyX2_ok 5 (by decide)) rfl rfl (Nat.le_of_ble_eq_true rfl) rfl dX2_copy_85 (fun M8 => ?_)
      exact ky_vret C dX2_copy_88
    · refine ky_aload_n C dX2_copy_35 0 rfl ?_
      refine ky_get C (ltT hG hkv0) (ceT hG hkv0) rfl inWX2 1 (by decide) (wY_in tw_1_95) rfl rfl dX2_copy_36 ?_
      refine ky_iload_n C dX2_copy_39 2 rfl ?_
      refine ky_aald C (ltCA hG hkv0) (ceCA hG hkv0) (tC3 hG) dX2_copy_40 (fun hx9 => ?_)
      refine ky_aload_n C dX2_copy_41 1 rfl ?_
      refine ky_get C (ltT hG hkv1) (ceT hG hkv1) rfl inWX2 1 (by decide) (wY_in tw_1_95) rfl rfl dX2_copy_42 ?_
      refine ky_iload_n C dX2_copy_45 2 rfl ?_
      refine ky_aald C (ltCA hG hkv1) (ceCA hG hkv1) (tC3 hG) dX2_copy_46 (fun hx10 => ?_)
      refine ky_callVv C (c_X0_copy hG F (kv0 + 6 + xv2.toNatClampNeg) (kv1 + 6 + xv2.toNatClampNeg) M (isCv_of hkv0 hx9) (isCv_of hkv1 hx10)) (ltC hG (isCv_of hkv0 hx9)) (ceC hG (isCv_of hkv0 hx9)) rfl (wY_goodV tw_2_239 tw_3_0 tw_3_1 tw_1_4 tw_3_2) hd_X0_copy ⟨rfl, rfl, by decide, by decide⟩ rfl rfl (Nat.le_of_ble_eq_true rfl) dX2_copy_47 (fun r11 M12 => ?_)
      refine ky_iinc (lv' := fun x13 => [(2, .int x13), (0, .ref (gA G kv0)), (1, .ref (gA G kv1))]) C dX2_copy_50 2 rfl (d1 := (1 : Int32)) rfl (by decide) (fun _ => rfl) (fun x13 => ?_)
      refine ky_goto C 30 dX2_copy_53 (by decide) ?_
      exact ky_sub [1, 2, 0] rfl (ih kv0 kv1 x13 M12 hkv0 hkv1)
def LX2_copy_2 (F : Nat)  : Nat → Nat → Nat → Int32 → Mem → Option (Unit × Mem)
  | 0, _, _, _, _ => none
  | n + 1, kv0, kv1, xv2, M => if (3 : Int32) ≤ xv2 then (LX2_copy_30 F  F kv0 kv1 (0 : Int32) M) else (gi xv2 3 (gi xv2 3 (bd (f_X3_copy F (kv0 + 3 + xv2.toNatClampNeg) (kv1 + 3 + xv2.toNatClampNeg) M) (fun r16 M17 => nm (xv2 + (1 : Int32)) (fun x18 => LX2_copy_2 F n kv0 kv1 x18 M17)))))
theorem LX2_copy_2_s (F : Nat)  (n : Nat) (kv0 : Nat) (kv1 : Nat) (xv2 : Int32) (M : Mem) : LX2_copy_2 F (n + 1) kv0 kv1 xv2 M = (if (3 : Int32) ≤ xv2 then (LX2_copy_30 F  F kv0 kv1 (0 : Int32) M) else (gi xv2 3 (gi xv2 3 (bd (f_X3_copy F (kv0 + 3 + xv2.toNatClampNeg) (kv1 + 3 + xv2.toNatClampNeg) M) (fun r16 M17 => nm (xv2 + (1 : Int32)) (fun x18 => LX2_copy_2 F n kv0 kv1 x18 M17)))))) := rfl
set_option maxRecDepth 100000 in
set_option maxHeartbeats 4000000 in
theorem lX2_copy_2 {G : KyG} {cy : Nat → ClassId} (hG : IsC G cy) {E : KyE} (C : Cx G E cX2_copy 3 RX2 (wY yX2_copy cX2_copy 3 none) none rmX2_copy) (F : Nat)   : ∀ (n : Nat) (kv0 : Nat) (kv1 : Nat) (xv2 : Int32) (M : Mem) (hkv0 : isTw kv0) (hkv1 : isTw kv1), Wo G E 3 rV (LX2_copy_2 F n kv0 kv1 xv2 M) M 2 [(0, .ref (gA G kv0)), (1, .ref (gA G kv1)), (2, .int xv2)] [] := by
  intro n
  induction n with
  | zero => intro kv0 kv1 xv2 M hkv0 hkv1; exact ky_none
  | succ n ih =>
    intro kv0 kv1 xv2 M hkv0 hkv1
    rw [LX2_copy_2_s]
    refine ky_iload_n C dX2_copy_2 2 rfl ?_
    refine ky_iconst C (3 : Int32) dX2_copy_3 (by decide) ?_
    refine ky_icmp_ge C 28 dX2_copy_4 (by decide) ?_ ?_
    · refine ky_iconst C (0 : Int32) dX2_copy_28 (by decide) ?_
      refine ky_istore_n (lv' := [(2, .int (0 : Int32)), (0, .ref (gA G kv0)), (1, .ref (gA G kv1))]) C dX2_copy_29 (by decide) rfl ?_
      exact ky_sub [1, 2, 0] rfl (lX2_copy_30 hG C F   F kv0 kv1 (0 : Int32) M hkv0 hkv1)
    · refine ky_aload_n C dX2_copy_7 0 rfl ?_
      refine ky_get C (ltT hG hkv0) (ceT hG hkv0) rfl inWX2 0 (by decide) (wY_in tw_1_93) rfl rfl dX2_copy_8 ?_
      refine ky_iload_n C dX2_copy_11 2 rfl ?_
      refine ky_aald C (ltVA hG hkv0) (ceVA hG hkv0) (tC2 hG) dX2_copy_12 (fun hx14 => ?_)
      refine ky_aload_n C dX2_copy_13 1 rfl ?_
      refine ky_get C (ltT hG hkv1) (ceT hG hkv1) rfl inWX2 0 (by decide) (wY_in tw_1_93) rfl rfl dX2_copy_14 ?_
      refine ky_iload_n C dX2_copy_17 2 rfl ?_
      refine ky_aald C (ltVA hG hkv1) (ceVA hG hkv1) (tC2 hG) dX2_copy_18 (fun hx15 => ?_)
      refine ky_callVv C (c_X3_copy hG F (kv0 + 3 + xv2.toNatClampNeg) (kv1 + 3 + xv2.toNatClampNeg) M (isVi_of hkv0 hx14) (isVi_of hkv1 hx15)) (ltV hG (isVi_of hkv0 hx14)) (ceV hG (isVi_of hkv0 hx14)) rfl (wY_goodV tw_2_235 tw_2_236 tw_2_237 tw_1_3 tw_2_238) hd_X3_copy ⟨rfl, rfl, by decide, by decide⟩ rfl rfl (Nat.le_of_ble_eq_true rfl) dX2_copy_19 (fun r16 M17 => ?_)
      refine ky_iinc (lv' := fun x18 => [(2, .int x18), (0, .ref (gA G kv0)), (1, .ref (gA G kv1))]) C dX2_copy_22 2 rfl (d1 := (1 : Int32)) rfl (by decide) (fun _ => rfl) (fun x18 => ?_)
      refine ky_goto C 2 dX2_copy_25 (by decide) ?_
      exact ky_sub [1, 2, 0] rfl (ih kv0 kv1 x18 M17 hkv0 hkv1)
def f_X2_copy (F : Nat) (k0 : Nat) (k1 : Nat) (M : Mem) : Option (Unit × Mem) := LX2_copy_2 F  F k0 k1 (0 : Int32) M
set_option maxRecDepth 100000 in
set_option maxHeartbeats 4000000 in
theorem c_X2_copy {G : KyG} {cy : Nat → ClassId} (hG : IsC G cy) (F : Nat)  (k0 : Nat) (k1 : Nat) (M : Mem) (hk0 : isTw k0) (hk1 : isTw k1) : Ct G yX2_copy (wY yX2_copy cX2_copy 3 none) rmX2_copy rV [.ref (gA G k0), .ref (gA G k1)] (f_X2_copy F k0 k1 M) M := by
  refine Ct_of cX2_copy 3 none RX2 hG.2.2.2.1 (by decide) rfl rfl (Nat.le_of_ble_eq_true rfl) rfl (fun E C => ?_)
  unfold f_X2_copy
  refine ky_iconst C (0 : Int32) dX2_copy_0 (by decide) ?_
  refine ky_istore_n (lv' := [(2, .int (0 : Int32)), (0, .ref (gA G k0)), (1, .ref (gA G k1))]) C dX2_copy_1 (by decide) rfl ?_
  exact ky_sub [1, 2, 0] rfl (lX2_copy_2 hG C F   F k0 k1 (0 : Int32) M hk0 hk1)
def rmX2_daysFor : Room := { frames := 2, cells := 0, slots := 0, locals := 41 }
theorem hd_X2_daysFor : yX2_daysFor.cls = RX2 ∧ yX2_daysFor.cls ≠ "java/lang/invoke/MethodHandle" ∧ yX2_daysFor.cls ≠ "java/lang/invoke/VarHandle" ∧ (parseMethodDescriptor yX2_daysFor.desc).map (fun d => d.parameters.length) = some 1 := ⟨rfl, by decide, by decide, by decide +kernel⟩
def LX2_daysFor_36 (F : Nat)  : Nat → Nat → Int32 → Int32 → Int32 → Mem → Option (Int32 × Mem)
  | 0, _, _, _, _, _ => none
  | n + 1, kv1, xv2, xv3, xv4, M => if xv2 ≤ xv4 then (some (xv3, M)) else (if (6 : Int32) < xv3 then (some (xv3, M)) else (bd (f_X0_mayEachDay F kv1 M) (fun r10 M11 => nm (xv4 + r10) (fun x12 => nm (xv3 + (1 : Int32)) (fun x13 => LX2_daysFor_36 F n kv1 xv2 x13 x12 M11)))))
theorem LX2_daysFor_36_s (F : Nat)  (n : Nat) (kv1 : Nat) (xv2 : Int32) (xv3 : Int32) (xv4 : Int32) (M : Mem) : LX2_daysFor_36 F (n + 1) kv1 xv2 xv3 xv4 M = (if xv2 ≤ xv4 then (some (xv3, M)) else (if (6 : Int32) < xv3 then (some (xv3, M)) else (bd (f_X0_mayEachDay F kv1 M) (fun r10 M11 => nm (xv4 + r10) (fun x12 => nm (xv3 + (1 : Int32)) (fun x13 => LX2_daysFor_36 F n kv1 xv2 x13 x12 M11)))))) := rfl
set_option maxRecDepth 100000 in
set_option maxHeartbeats 4000000 in
theorem lX2_daysFor_36 {G : KyG} {cy : Nat → ClassId} (hG : IsC G cy) {E : KyE} (C : Cx G E cX2_daysFor 5 RX2 (wY yX2_daysFor cX2_daysFor 5 (some .int)) (some .int) rmX2_daysFor) (F : Nat)   : ∀ (n : Nat) (kv1 : Nat) (xv2 : Int32) (xv3 : Int32) (xv4 : Int32) (M : Mem) (hkv1 : isCv kv1), Wo G E 5 rI (LX2_daysFor_36 F n kv1 xv2 xv3 xv4 M) M 36 [(1, .ref (gA G kv1)), (2, .int xv2), (3, .int xv3), (4, .int xv4)] [] := by
  intro n
  induction n with
  | zero => intro kv1 xv2 xv3 xv4 M hkv1; exact ky_none
  | succ n ih =>
    intro kv1 xv2 xv3 xv4 M hkv1
    rw [LX2_daysFor_36_s]
    refine ky_iload C dX2_daysFor_36 3 rfl ?_
    refine ky_iload_n C dX2_daysFor_38 1 rfl ?_
    refine ky_icmp_ge C 63 dX2_daysFor_39 (by decide) ?_ ?_
    · refine ky_iload_n C dX2_daysFor_63 2 rfl ?_
      exact ky_iret C dX2_daysFor_64
    · refine ky_iload_n C dX2_daysFor_42 2 rfl ?_
      refine ky_bipush C (6 : Int32) dX2_daysFor_43 (by decide) ?_
      refine ky_icmp_gt C 63 dX2_daysFor_45 (by decide) ?_ ?_
      · refine ky_iload_n C dX2_daysFor_63 2 rfl ?_
        exact ky_iret C dX2_daysFor_64
      · refine ky_iload C dX2_daysFor_48 3 rfl ?_
        refine ky_aload_n C dX2_daysFor_50 0 rfl ?_
        refine ky_callVi C (c_X0_mayEachDay hG F kv1 M hkv1) (ltC hG hkv1) (ceC hG hkv1) rfl (wY_goodV tw_2_105 tw_2_72 tw_2_73 tw_1_4 tw_2_74) hd_X0_mayEachDay ⟨rfl, rfl, by decide, by decide⟩ rfl rfl (Nat.le_of_ble_eq_true rfl) dX2_daysFor_51 (fun r10 M11 => ?_)
        refine ky_iadd C dX2_daysFor_54 ?_
        refine ky_nmi (fun x12 => ?_)
        refine ky_istore (lv' := [(4, .int x12), (1, .ref (gA G kv1)), (2, .int xv2), (3, .int xv3)]) C dX2_daysFor_55 (by decide) rfl ?_
        refine ky_iinc (lv' := fun x13 => [(3, .int x13), (4, .int x12), (1, .ref (gA G kv1)), (2, .int xv2)]) C dX2_daysFor_57 3 rfl (d1 := (1 : Int32)) rfl (by decide) (fun _ => rfl) (fun x13 => ?_)
        refine ky_goto C 36 dX2_daysFor_60 (by decide) ?_
        exact ky_sub [2, 3, 0, 1] rfl (ih kv1 xv2 x13 x12 M11 hkv1)
def f_X2_daysFor (F : Nat) (k0 : Nat) (k1 : Nat) (M : Mem) : Option (Int32 × Mem) := bd (f_X0_hasPaid F k1 M) (fun r1 M2 => if r1 = 0 then (bd (f_X0_needs F k1 M2) (fun r3 M4 => bd (f_X2_leftTo F k0 k1 M4) (fun r5 M6 => bd (f_J6_bitCount_0f7a4 F r5 M6) (fun r7 M8 => if r3 ≤ r7 then (nm (M8.1 k1 4) (fun x9 => LX2_daysFor_36 F  F k1 r3 (1 : Int32) x9 M8)) else (some ((mI 1), M8)))))) else (some ((0 : Int32), M2)))
set_option maxRecDepth 100000 in
set_option maxHeartbeats 4000000 in
theorem c_X2_daysFor {G : KyG} {cy : Nat → ClassId} (hG : IsC G cy) (F : Nat)  (k0 : Nat) (k1 : Nat) (M : Mem) (hk0 : isTw k0) (hk1 : isCv k1) : Ct G yX2_daysFor (wY yX2_daysFor cX2_daysFor 5 (some .int)) rmX2_daysFor rI [.ref (gA G k0), .ref (gA G k1)] (f_X2_daysFor F k0 k1 M) M := by
  refine Ct_of cX2_daysFor 5 (some .int) RX2 hG.2.2.2.1 (by decide) rfl rfl (Nat.le_of_ble_eq_true rfl) rfl (fun E C => ?_)
  unfold f_X2_daysFor
  refine ky_aload_n C dX2_daysFor_0 1 rfl ?_
  refine ky_callVi C (c_X0_hasPaid hG F k1 M hk1) (ltC hG hk1) (ceC hG hk1) rfl (wY_goodV tw_2_95 tw_2_96 tw_2_97 tw_1_4 tw_2_98) hd_X0_hasPaid ⟨rfl, rfl, by decide, by decide⟩ rfl rfl (Nat.le_of_ble_eq_true rfl) dX2_daysFor_1 (fun r1 M2 => ?_)
  refine ky_if_eq C 9 dX2_daysFor_4 (by decide) ?_ ?_
  · refine ky_aload_n C dX2_daysFor_9 1 rfl ?_
    refine ky_callVi C (c_X0_needs hG F k1 M2 hk1) (ltC hG hk1) (ceC hG hk1) rfl (wY_goodV tw_2_99 tw_2_100 tw_2_101 tw_1_4 tw_2_102) hd_X0_needs ⟨rfl, rfl, by decide, by decide⟩ rfl rfl (Nat.le_of_ble_eq_true rfl) dX2_daysFor_10 (fun r3 M4 => ?_)
    refine ky_istore_n (lv' := [(2, .int r3), (0, .ref (gA G k0)), (1, .ref (gA G k1))]) C dX2_daysFor_13 (by decide) rfl ?_
    refine ky_aload_n C dX2_daysFor_14 1 rfl ?_
    refine ky_aload_n C dX2_daysFor_15 2 rfl ?_
    refine ky_callVi C (c_X2_leftTo hG F k0 k1 M4 hk0 hk1) (ltT hG hk0) (ceT hG hk0) rfl (wY_goodV tw_2_104 tw_2_84 tw_2_85 tw_1_2 tw_2_86) hd_X2_leftTo ⟨rfl, rfl, by decide, by decide⟩ rfl rfl (Nat.le_of_ble_eq_true rfl) dX2_daysFor_16 (fun r5 M6 => ?_)
    refine ky_callSi C (c_J6_bitCount_0f7a4 hG F r5 M6 ) (wY_goodS tw_2_38 tw_2_39 tw_1_12 tw_2_40) hd_J6_bitCount_0f7a4 ⟨rfl, rfl, by decide, by decide⟩ rfl rfl (Nat.le_of_ble_eq_true rfl) dX2_daysFor_19 (fun r7 M8 => ?_)
    refine ky_iload_n C dX2_daysFor_22 0 rfl ?_
    refine ky_icmp_ge C 28 dX2_daysFor_23 (by decide) ?_ ?_
    · refine ky_iconst C (1 : Int32) dX2_daysFor_28 (by decide) ?_
      refine ky_istore_n (lv' := [(3, .int (1 : Int32)), (2, .int r3), (0, .ref (gA G k0)), (1, .ref (gA G k1))]) C dX2_daysFor_29 (by decide) rfl ?_
      refine ky_aload_n C dX2_daysFor_30 3 rfl ?_
      refine ky_get C (ltC hG hk1) (ceC hG hk1) rfl inWX0 4 (by decide) (wY_in tw_1_76) rfl rfl dX2_daysFor_31 ?_
      refine ky_nmi (fun x9 => ?_)
      refine ky_istore (lv' := [(4, .int x9), (3, .int (1 : Int32)), (2, .int r3), (0, .ref (gA G k0)), (1, .ref (gA G k1))]) C dX2_daysFor_34 (by decide) rfl ?_
      exact ky_sub [4, 2, 1, 0] rfl (lX2_daysFor_36 hG C F   F k1 r3 (1 : Int32) x9 M8 hk1)
    · refine ky_iconst C (mI 1) dX2_daysFor_26 (by decide) ?_
      exact ky_iret C dX2_daysFor_27
  · refine ky_iconst C (0 : Int32) dX2_daysFor_7 (by decide) ?_
    exact ky_iret C dX2_daysFor_8
def rmX2_findFor : Room := { frames := 2, cells := 0, slots := 0, locals := 41 }
theorem hd_X2_findFor : yX2_findFor.cls = RX2 ∧ yX2_findFor.cls ≠ "java/lang/invoke/MethodHandle" ∧ yX2_findFor.cls ≠ "java/lang/invoke/VarHandle" ∧ (parseMethodDescriptor yX2_findFor.desc).map (fun d => d.parameters.length) = some 1 := ⟨rfl, by decide, by decide, by decide +kernel⟩
def f_X2_findFor (F : Nat) (k0 : Nat) (k1 : Nat) (M : Mem) : Option (Int32 × Mem) := bd (f_X0_needs F k1 M) (fun r1 M2 => bd (f_X2_leftTo F k0 k1 M2) (fun r3 M4 => bd (f_J6_bitCount_0f7a4 F r3 M4) (fun r5 M6 => nm (r1 - r5) (fun x7 => if 0 < x7 then (gi (M6.1 k1 1) 3 (bd (f_X3_trueAndNew F (k0 + 3 + (M6.1 k1 1).toNatClampNeg) M6) (fun r9 M10 => nm (r9 &&& ((M10.1 k1 3) ^^^ (mI 1))) (fun x11 => bd (f_J6_bitCount_0f7a4 F x11 M10) (fun r12 M13 => if r12 < x7 then (some ((mI 1), M13)) else (some (x7, M13))))))) else (some ((0 : Int32), M6))))))
set_option maxRecDepth 100000 in
set_option maxHeartbeats 4000000 in
theorem c_X2_findFor {G : KyG} {cy : Nat → ClassId} (hG : IsC G cy) (F : Nat)  (k0 : Nat) (k1 : Nat) (M : Mem) (hk0 : isTw k0) (hk1 : isCv k1) : Ct G yX2_findFor (wY yX2_findFor cX2_findFor 4 (some .int)) rmX2_findFor rI [.ref (gA G k0), .ref (gA G k1)] (f_X2_findFor F k0 k1 M) M := by
  refine Ct_of cX2_findFor 4 (some .int) RX2 hG.2.2.2.1 (by decide) rfl rfl (Nat.le_of_ble_eq_true rfl) rfl (fun E C => ?_)
  unfold f_X2_findFor
  refine ky_aload_n C dX2_findFor_0 1 rfl ?_
  refine ky_callVi C (c_X0_needs hG F k1 M hk1) (ltC hG hk1) (ceC hG hk1) rfl (wY_goodV tw_2_99 tw_2_100 tw_2_101 tw_1_4 tw_2_102) hd_X0_needs ⟨rfl, rfl, by decide, by decide⟩ rfl rfl (Nat.le_of_ble_eq_true rfl) dX2_findFor_1 (fun r1 M2 => ?_)
  refine ky_aload_n C dX2_findFor_4 0 rfl ?_
  refine ky_aload_n C dX2_findFor_5 1 rfl ?_
  refine ky_callVi C (c_X2_leftTo hG F k0 k1 M2 hk0 hk1) (ltT hG hk0) (ceT hG hk0) rfl (wY_goodV tw_2_104 tw_2_84 tw_2_85 tw_1_2 tw_2_86) hd_X2_leftTo ⟨rfl, rfl, by decide, by decide⟩ rfl rfl (Nat.le_of_ble_eq_true rfl) dX2_findFor_6 (fun r3 M4 => ?_)
  refine ky_callSi C (c_J6_bitCount_0f7a4 hG F r3 M4 ) (wY_goodS tw_2_38 tw_2_39 tw_1_12 tw_2_40) hd_J6_bitCount_0f7a4 ⟨rfl, rfl, by decide, by decide⟩ rfl rfl (Nat.le_of_ble_eq_true rfl) dX2_findFor_9 (fun r5 M6 => ?_)
  refine ky_isub C dX2_findFor_12 ?_
  refine ky_nmi (fun x7 => ?_)
  refine ky_istore_n (lv' := [(2, .int x7), (0, .ref (gA G k0)), (1, .ref (gA G k1))]) C dX2_findFor_13 (by decide) rfl ?_
  refine ky_iload_n C dX2_findFor_14 0 rfl ?_
  refine ky_if_gt C 20 dX2_findFor_15 (by decide) ?_ ?_
  · refine ky_aload_n C dX2_findFor_20 1 rfl ?_
    refine ky_get C (ltT hG hk0) (ceT hG hk0) rfl inWX2 0 (by decide) (wY_in tw_1_93) rfl rfl dX2_findFor_21 ?_
    refine ky_aload_n C dX2_findFor_24 2 rfl ?_
    refine ky_get C (ltC hG hk1) (ceC hG hk1) rfl inWX0 1 (by decide) (wY_in tw_1_66) rfl rfl dX2_findFor_25 ?_
    refine ky_aald C (ltVA hG hk0) (ceVA hG hk0) (tC2 hG) dX2_findFor_28 (fun hx8 => ?_)
    refine ky_callVi C (c_X3_trueAndNew hG F (k0 + 3 + (M6.1 k1 1).toNatClampNeg) M6 (isVi_of hk0 hx8)) (ltV hG (isVi_of hk0 hx8)) (ceV hG (isVi_of hk0 hx8)) rfl (wY_goodV tw_2_87 tw_2_88 tw_2_89 tw_1_3 tw_2_90) hd_X3_trueAndNew ⟨rfl, rfl, by decide, by decide⟩ rfl rfl (Nat.le_of_ble_eq_true rfl) dX2_findFor_29 (fun r9 M10 => ?_)
    refine ky_aload_n C dX2_findFor_32 2 rfl ?_
    refine ky_get C (ltC hG hk1) (ceC hG hk1) rfl inWX0 3 (by decide) (wY_in tw_1_72) rfl rfl dX2_findFor_33 ?_
    refine ky_iconst C (mI 1) dX2_findFor_36 (by decide) ?_
    refine ky_ixor C dX2_findFor_37 ?_
    refine ky_iand C dX2_findFor_38 ?_
    refine ky_nmi (fun x11 => ?_)
    refine ky_istore_n (lv' := [(3, .int x11), (2, .int x7), (0, .ref (gA G k0)), (1, .ref (gA G k1))]) C dX2_findFor_39 (by decide) rfl ?_
    refine ky_iload_n C dX2_findFor_40 1 rfl ?_
    refine ky_iload_n C dX2_findFor_41 0 rfl ?_
    refine ky_callSi C (c_J6_bitCount_0f7a4 hG F x11 M10 ) (wY_goodS tw_2_38 tw_2_39 tw_1_12 tw_2_40) hd_J6_bitCount_0f7a4 ⟨rfl, rfl, by decide, by decide⟩ rfl rfl (Nat.le_of_ble_eq_true rfl) dX2_findFor_42 (fun r12 M13 => ?_)
    refine ky_icmp_gt C 52 dX2_findFor_45 (by decide) ?_ ?_
    · refine ky_iconst C (mI 1) dX2_findFor_52 (by decide) ?_
      exact ky_iret C dX2_findFor_53
    · refine ky_iload_n C dX2_findFor_48 1 rfl ?_
      refine ky_goto C 53 dX2_findFor_49 (by decide) ?_
      exact ky_iret C dX2_findFor_53
  · refine ky_iconst C (0 : Int32) dX2_findFor_18 (by decide) ?_
    exact ky_iret C dX2_findFor_19
def rmX2_finesOf : Room := { frames := 0, cells := 0, slots := 0, locals := 0 }
theorem hd_X2_finesOf : yX2_finesOf.cls = RX2 ∧ yX2_finesOf.cls ≠ "java/lang/invoke/MethodHandle" ∧ yX2_finesOf.cls ≠ "java/lang/invoke/VarHandle" ∧ (parseMethodDescriptor yX2_finesOf.desc).map (fun d => d.parameters.length) = some 1 := ⟨rfl, by decide, by decide, by decide +kernel⟩
def LX2_finesOf_4 (F : Nat)  : Nat → Nat → Int32 → Int32 → Int32 → Mem → Option (Int32 × Mem)
  | 0, _, _, _, _, _ => none
  | n + 1, kv0, xv1, xv2, xv3, M => if (M.1 kv0 2) ≤ xv3 then (some (xv2, M)) else (if (xv1 &&& ((1 : Int32) <<< (xv3 &&& 31))) = 0 then (nm (xv3 + (1 : Int32)) (fun x1 => LX2_finesOf_4 F n kv0 xv1 xv2 x1 M)) else (gi xv3 4 (nm (xv2 + (M.1 (kv0 + 6 + xv3.toNatClampNeg) 2)) (fun x3 => nm (xv3 + (1 : Int32)) (fun x4 => LX2_finesOf_4 F n kv0 xv1 x3 x4 M)))))
theorem LX2_finesOf_4_s (F : Nat)  (n : Nat) (kv0 : Nat) (xv1 : Int32) (xv2 : Int32) (xv3 : Int32) (M : Mem) : LX2_finesOf_4 F (n + 1) kv0 xv1 xv2 xv3 M = (if (M.1 kv0 2) ≤ xv3 then (some (xv2, M)) else (if (xv1 &&& ((1 : Int32) <<< (xv3 &&& 31))) = 0 then (nm (xv3 + (1 : Int32)) (fun x1 => LX2_finesOf_4 F n kv0 xv1 xv2 x1 M)) else (gi xv3 4 (nm (xv2 + (M.1 (kv0 + 6 + xv3.toNatClampNeg) 2)) (fun x3 => nm (xv3 + (1 : Int32)) (fun x4 => LX2_finesOf_4 F n kv0 xv1 x3 x4 M)))))) := rfl
set_option maxRecDepth 100000 in
set_option maxHeartbeats 4000000 in
theorem lX2_finesOf_4 {G : KyG} {cy : Nat → ClassId} (hG : IsC G cy) {E : KyE} (C : Cx G E cX2_finesOf 4 RX2 (wY yX2_finesOf cX2_finesOf 4 (some .int)) (some .int) rmX2_finesOf) (F : Nat)   : ∀ (n : Nat) (kv0 : Nat) (xv1 : Int32) (xv2 : Int32) (xv3 : Int32) (M : Mem) (hkv0 : isTw kv0), Wo G E 4 rI (LX2_finesOf_4 F n kv0 xv1 xv2 xv3 M) M 4 [(0, .ref (gA G kv0)), (1, .int xv1), (2, .int xv2), (3, .int xv3)] [] := by
  intro n
  induction n with
  | zero => intro kv0 xv1 xv2 xv3 M hkv0; exact ky_none
  | succ n ih =>
    intro kv0 xv1 xv2 xv3 M hkv0
    rw [LX2_finesOf_4_s]
    refine ky_iload_n C dX2_finesOf_4 3 rfl ?_
    refine ky_aload_n C dX2_finesOf_5 0 rfl ?_
    refine ky_get C (ltT hG hkv0) (ceT hG hkv0) rfl inWX2 2 (by decide) (wY_in tw_1_99) rfl rfl dX2_finesOf_6 ?_
    refine ky_icmp_ge C 38 dX2_finesOf_9 (by decide) ?_ ?_
    · refine ky_iload_n C dX2_finesOf_38 2 rfl ?_
      exact ky_iret C dX2_finesOf_39
    · refine ky_iload_n C dX2_finesOf_12 1 rfl ?_
      refine ky_iconst C (1 : Int32) dX2_finesOf_13 (by decide) ?_
      refine ky_iload_n C dX2_finesOf_14 3 rfl ?_
      refine ky_ishl C dX2_finesOf_15 ?_
      refine ky_iand C dX2_finesOf_16 ?_
      refine ky_if_eq C 32 dX2_finesOf_17 (by decide) ?_ ?_
      · refine ky_iinc (lv' := fun x1 => [(3, .int x1), (0, .ref (gA G kv0)), (1, .int xv1), (2, .int xv2)]) C dX2_finesOf_32 3 rfl (d1 := (1 : Int32)) rfl (by decide) (fun _ => rfl) (fun x1 => ?_)
        refine ky_goto C 4 dX2_finesOf_35 (by decide) ?_
        exact ky_sub [1, 2, 3, 0] rfl (ih kv0 xv1 xv2 x1 M hkv0)
      · refine ky_iload_n C dX2_finesOf_20 2 rfl ?_
        refine ky_aload_n C dX2_finesOf_21 0 rfl ?_
        refine ky_get C (ltT hG hkv0) (ceT hG hkv0) rfl inWX2 1 (by decide) (wY_in tw_1_95) rfl rfl dX2_finesOf_22 ?_
        refine ky_iload_n C dX2_finesOf_25 3 rfl ?_
        refine ky_aald C (ltCA hG hkv0) (ceCA hG hkv0) (tC3 hG) dX2_finesOf_26 (fun hx2 => ?_)
        refine ky_get C (ltC hG (isCv_of hkv0 hx2)) (ceC hG (isCv_of hkv0 hx2)) rfl inWX0 2 (by decide) (wY_in tw_1_70) rfl rfl dX2_finesOf_27 ?_
        refine ky_iadd C dX2_finesOf_30 ?_
        refine ky_nmi (fun x3 => ?_)
        refine ky_istore_n (lv' := [(2, .int x3), (0, .ref (gA G kv0)), (1, .int xv1), (3, .int xv3)]) C dX2_finesOf_31 (by decide) rfl ?_
        refine ky_iinc (lv' := fun x4 => [(3, .int x4), (2, .int x3), (0, .ref (gA G kv0)), (1, .int xv1)]) C dX2_finesOf_32 3 rfl (d1 := (1 : Int32)) rfl (by decide) (fun _ => rfl) (fun x4 => ?_)
        refine ky_goto C 4 dX2_finesOf_35 (by decide) ?_
        exact ky_sub [2, 3, 1, 0] rfl (ih kv0 xv1 x3 x4 M hkv0)
def f_X2_finesOf (F : Nat) (k0 : Nat) (a1 : Int32) (M : Mem) : Option (Int32 × Mem) := LX2_finesOf_4 F  F k0 a1 (0 : Int32) (0 : Int32) M
set_option maxRecDepth 100000 in
set_option maxHeartbeats 4000000 in
theorem c_X2_finesOf {G : KyG} {cy : Nat → ClassId} (hG : IsC G cy) (F : Nat)  (k0 : Nat) (a1 : Int32) (M : Mem) (hk0 : isTw k0) : Ct G yX2_finesOf (wY yX2_finesOf cX2_finesOf 4 (some .int)) rmX2_finesOf rI [.ref (gA G k0), .int a1] (f_X2_finesOf F k0 a1 M) M := by
  refine Ct_of cX2_finesOf 4 (some .int) RX2 hG.2.2.2.1 (by decide) rfl rfl (Nat.le_of_ble_eq_true rfl) rfl (fun E C => ?_)
  unfold f_X2_finesOf
  refine ky_iconst C (0 : Int32) dX2_finesOf_0 (by decide) ?_
  refine ky_istore_n (lv' := [(2, .int (0 : Int32)), (0, .ref (gA G k0)), (1, .int a1)]) C dX2_finesOf_1 (by decide) rfl ?_
  refine ky_iconst C (0 : Int32) dX2_finesOf_2 (by decide) ?_
  refine ky_istore_n (lv' := [(3, .int (0 : Int32)), (2, .int (0 : Int32)), (0, .ref (gA G k0)), (1, .int a1)]) C dX2_finesOf_3 (by decide) rfl ?_
  exact ky_sub [2, 3, 1, 0] rfl (lX2_finesOf_4 hG C F   F k0 a1 (0 : Int32) (0 : Int32) M hk0)
def rmX2_forgetTrials : Room := { frames := 1, cells := 0, slots := 0, locals := 20 }
theorem hd_X2_forgetTrials : yX2_forgetTrials.cls = RX2 ∧ yX2_forgetTrials.cls ≠ "java/lang/invoke/MethodHandle" ∧ yX2_forgetTrials.cls ≠ "java/lang/invoke/VarHandle" ∧ (parseMethodDescriptor yX2_forgetTrials.desc).map (fun d => d.parameters.length) = some 0 := ⟨rfl, by decide, by decide, by decide +kernel⟩
def LX2_forgetTrials_2 (F : Nat)  : Nat → Nat → Int32 → Mem → Option (Unit × Mem)
  | 0, _, _, _ => none
  | n + 1, kv0, xv1, M => if (3 : Int32) ≤ xv1 then (nm (u2 M kv0 5 (0 : Int32)) (fun M1 => some ((), M1))) else (gi xv1 3 (bd (f_X3_forgetTrials F (kv0 + 3 + xv1.toNatClampNeg) M) (fun r3 M4 => nm (xv1 + (1 : Int32)) (fun x5 => LX2_forgetTrials_2 F n kv0 x5 M4))))
theorem LX2_forgetTrials_2_s (F : Nat)  (n : Nat) (kv0 : Nat) (xv1 : Int32) (M : Mem) : LX2_forgetTrials_2 F (n + 1) kv0 xv1 M = (if (3 : Int32) ≤ xv1 then (nm (u2 M kv0 5 (0 : Int32)) (fun M1 => some ((), M1))) else (gi xv1 3 (bd (f_X3_forgetTrials F (kv0 + 3 + xv1.toNatClampNeg) M) (fun r3 M4 => nm (xv1 + (1 : Int32)) (fun x5 => LX2_forgetTrials_2 F n kv0 x5 M4))))) := rfl
set_option maxRecDepth 100000 in
set_option maxHeartbeats 4000000 in
theorem lX2_forgetTrials_2 {G : KyG} {cy : Nat → ClassId} (hG : IsC G cy) {E : KyE} (C : Cx G E cX2_forgetTrials 2 RX2 (wY yX2_forgetTrials cX2_forgetTrials 2 none) none rmX2_forgetTrials) (F : Nat)   : ∀ (n : Nat) (kv0 : Nat) (xv1 : Int32) (M : Mem) (hkv0 : isTw kv0), Wo G E 2 rV (LX2_forgetTrials_2 F n kv0 xv1 M) M 2 [(0, .ref (gA G kv0)), (1, .int xv1)] [] := by
  intro n
  induction n with
  | zero => intro kv0 xv1 M hkv0; exact ky_none
  | succ n ih =>
    intro kv0 xv1 M hkv0
    rw [LX2_forgetTrials_2_s]
    refine ky_iload_n C dX2_forgetTrials_2 1 rfl ?_
    refine ky_iconst C (3 : Int32) dX2_forgetTrials_3 (by decide) ?_
    refine ky_icmp_ge C 22 dX2_forgetTrials_4 (by decide) ?_ ?_
    · refine ky_aload_n C dX2_forgetTrials_22 0 rfl ?_
      refine ky_iconst C (0 : Int32) dX2_forgetTrials_23 (by decide) ?_
      refine ky_put C (ltT hG hkv0) (ceT hG hkv0) rfl inWX2 tyX2_ok nmX2 5 (by decide) (wY_in tw_1_107) ⟨rfl, rfl⟩ (tyX2_ok 5 (by decide)) rfl rfl (Nat.le_of_ble_eq_true rfl) rfl dX2_forgetTrials_24 (fun M1 => ?_)
      exact ky_vret C dX2_forgetTrials_27
    · refine ky_aload_n C dX2_forgetTrials_7 0 rfl ?_
      refine ky_get C (ltT hG hkv0) (ceT hG hkv0) rfl inWX2 0 (by decide) (wY_in tw_1_93) rfl rfl dX2_forgetTrials_8 ?_
      refine ky_iload_n C dX2_forgetTrials_11 1 rfl ?_
      refine ky_aald C (ltVA hG hkv0) (ceVA hG hkv0) (tC2 hG) dX2_forgetTrials_12 (fun hx2 => ?_)
      refine ky_callVv C (c_X3_forgetTrials hG F (kv0 + 3 + xv1.toNatClampNeg) M (isVi_of hkv0 hx2)) (ltV hG (isVi_of hkv0 hx2)) (ceV hG (isVi_of hkv0 hx2)) rfl (wY_goodV tw_2_204 tw_2_27 tw_2_28 tw_1_3 tw_2_29) hd_X3_forgetTrials ⟨rfl, rfl, by decide, by decide⟩ rfl rfl (Nat.le_of_ble_eq_true rfl) dX2_forgetTrials_13 (fun r3 M4 => ?_)
      refine ky_iinc (lv' := fun x5 => [(1, .int x5), (0, .ref (gA G kv0))]) C dX2_forgetTrials_16 1 rfl (d1 := (1 : Int32)) rfl (by decide) (fun _ => rfl) (fun x5 => ?_)
      refine ky_goto C 2 dX2_forgetTrials_19 (by decide) ?_
      exact ky_sub [1, 0] rfl (ih kv0 x5 M4 hkv0)
def f_X2_forgetTrials (F : Nat) (k0 : Nat) (M : Mem) : Option (Unit × Mem) := LX2_forgetTrials_2 F  F k0 (0 : Int32) M
set_option maxRecDepth 100000 in
set_option maxHeartbeats 4000000 in
theorem c_X2_forgetTrials {G : KyG} {cy : Nat → ClassId} (hG : IsC G cy) (F : Nat)  (k0 : Nat) (M : Mem) (hk0 : isTw k0) : Ct G yX2_forgetTrials (wY yX2_forgetTrials cX2_forgetTrials 2 none) rmX2_forgetTrials rV [.ref (gA G k0)] (f_X2_forgetTrials F k0 M) M := by
  refine Ct_of cX2_forgetTrials 2 none RX2 hG.2.2.2.1 (by decide) rfl rfl (Nat.le_of_ble_eq_true rfl) rfl (fun E C => ?_)
  unfold f_X2_forgetTrials
  refine ky_iconst C (0 : Int32) dX2_forgetTrials_0 (by decide) ?_
  refine ky_istore_n (lv' := [(1, .int (0 : Int32)), (0, .ref (gA G k0))]) C dX2_forgetTrials_1 (by decide) rfl ?_
  exact ky_sub [1, 0] rfl (lX2_forgetTrials_2 hG C F   F k0 (0 : Int32) M hk0)
def rmX2_hear : Room := { frames := 1, cells := 0, slots := 0, locals := 20 }
theorem hd_X2_hear : yX2_hear.cls = RX2 ∧ yX2_hear.cls ≠ "java/lang/invoke/MethodHandle" ∧ yX2_hear.cls ≠ "java/lang/invoke/VarHandle" ∧ (parseMethodDescriptor yX2_hear.desc).map (fun d => d.parameters.length) = some 2 := ⟨rfl, by decide, by decide, by decide +kernel⟩
def JX2_hear_74 (F : Nat) (kv1 : Nat) (kv3 : Nat) (xv4 : Int32) (M : Mem) : Option (Int32 × Mem) := nm ((M.1 kv3 1) ||| xv4) (fun x5 => nm (u2 M kv3 1 x5) (fun M6 => bd (f_X0_pay F kv1 M6) (fun r7 M8 => some ((1 : Int32), M8))))
set_option maxRecDepth 100000 in
set_option maxHeartbeats 4000000 in
theorem jX2_hear_74 {G : KyG} {cy : Nat → ClassId} (hG : IsC G cy) {E : KyE} (C : Cx G E cX2_hear 5 RX2 (wY yX2_hear cX2_hear 5 (some .boolean)) (some .boolean) rmX2_hear) (F : Nat) (kv1 : Nat) (kv3 : Nat) (xv4 : Int32) (M : Mem) (hkv1 : isCv kv1) (hkv3 : isVi kv3) : Wo G E 5 rI (JX2_hear_74 F kv1 kv3 xv4 M) M 74 [(1, .ref (gA G kv1)), (3, .ref (gA G kv3)), (4, .int xv4)] [] := by
  unfold JX2_hear_74
  refine ky_aload_n C dX2_hear_74 1 rfl ?_
  refine ky_dup C dX2_hear_75 rfl ?_
  refine ky_get C (ltV hG hkv3) (ceV hG hkv3) rfl inWX3 1 (by decide) (wY_in tw_1_41) rfl rfl dX2_hear_76 ?_
  refine ky_iload C dX2_hear_79 2 rfl ?_
  refine ky_ior C dX2_hear_81 ?_
  refine ky_nmi (fun x5 => ?_)
  refine ky_put C (ltV hG hkv3) (ceV hG hkv3) rfl inWX3 tyX3_ok nmX3 1 (by decide) (wY_in tw_1_41) ⟨rfl, rfl⟩ (tyX3_ok 1 (by decide)) rfl rfl (Nat.le_of_ble_eq_true rfl) rfl dX2_hear_82 (fun M6 => ?_)
  refine ky_aload_n C dX2_hear_85 0 rfl ?_
  refine ky_callVv C (c_X0_pay hG F kv1 M6 hkv1) (ltC hG hkv1) (ceC hG hkv1) rfl (wY_goodV tw_2_134 tw_2_135 tw_2_136 tw_1_4 tw_2_137) hd_X0_pay ⟨rfl, rfl, by decide, by decide⟩ rfl rfl (Nat.le_of_ble_eq_true rfl) dX2_hear_86 (fun r7 M8 => ?_)
  refine ky_iconst C (1 : Int32) dX2_hear_89 (by decide) ?_
  exact ky_zret C (by decide) dX2_hear_90
def f_X2_hear (F : Nat) (k0 : Nat) (k1 : Nat) (a2 : Int32) (M : Mem) : Option (Int32 × Mem) := nm ((M.1 k1 4) - (1 : Int32)) (fun x1 => nm (u2 M k1 4 x1) (fun M2 => gi (M2.1 k1 1) 3 (nm ((1 : Int32) <<< (a2 &&& 31)) (fun x4 => if ((M2.1 (k0 + 3 + (M2.1 k1 1).toNatClampNeg) 1) &&& x4) = 0 then (if ((M2.1 (k0 + 3 + (M2.1 k1 1).toNatClampNeg) 0) &&& x4) = 0 then (if (M2.1 k1 0) = (2 : Int32) then (if (M2.1 k0 3) = 0 then (some ((0 : Int32), M2)) else (nm ((M2.1 k0 3) - (1 : Int32)) (fun x9 => nm (u2 M2 k0 3 x9) (fun M10 => JX2_hear_74 F k1 (k0 + 3 + (M2.1 k1 1).toNatClampNeg) x4 M10)))) else (some ((0 : Int32), M2))) else (JX2_hear_74 F k1 (k0 + 3 + (M2.1 k1 1).toNatClampNeg) x4 M2)) else (some ((0 : Int32), M2))))))
set_option maxRecDepth 100000 in
set_option maxHeartbeats 4000000 in
theorem c_X2_hear {G : KyG} {cy : Nat → ClassId} (hG : IsC G cy) (F : Nat)  (k0 : Nat) (k1 : Nat) (a2 : Int32) (M : Mem) (hk0 : isTw k0) (hk1 : isCv k1) : Ct G yX2_hear (wY yX2_hear cX2_hear 5 (some .boolean)) rmX2_hear rI [.ref (gA G k0), .ref (gA G k1), .int a2] (f_X2_hear F k0 k1 a2 M) M := by
  refine Ct_of cX2_hear 5 (some .boolean) RX2 hG.2.2.2.1 (by decide) rfl rfl (Nat.le_of_ble_eq_true rfl) rfl (fun E C => ?_)
  unfold f_X2_hear
  refine ky_aload_n C dX2_hear_0 1 rfl ?_
  refine ky_dup C dX2_hear_1 rfl ?_
  refine ky_get C (ltC hG hk1) (ceC hG hk1) rfl inWX0 4 (by decide) (wY_in tw_1_76) rfl rfl dX2_hear_2 ?_
  refine ky_iconst C (1 : Int32) dX2_hear_5 (by decide) ?_
  refine ky_isub C dX2_hear_6 ?_
  refine ky_nmi (fun x1 => ?_)
  refine ky_put C (ltC hG hk1) (ceC hG hk1) rfl inWX0 tyX0_ok nmX0 4 (by decide) (wY_in tw_1_76) ⟨rfl, rfl⟩ (tyX0_ok 4 (by decide)) rfl rfl (Nat.le_of_ble_eq_true rfl) rfl dX2_hear_7 (fun M2 => ?_)
  refine ky_aload_n C dX2_hear_10 0 rfl ?_
  refine ky_get C (ltT hG hk0) (ceT hG hk0) rfl inWX2 0 (by decide) (wY_in tw_1_93) rfl rfl dX2_hear_11 ?_
  refine ky_aload_n C dX2_hear_14 1 rfl ?_
  refine ky_get C (ltC hG hk1) (ceC hG hk1) rfl inWX0 1 (by decide) (wY_in tw_1_66) rfl rfl dX2_hear_15 ?_
  refine ky_aald C (ltVA hG hk0) (ceVA hG hk0) (tC2 hG) dX2_hear_18 (fun hx3 => ?_)
  refine ky_astore_n (lv' := [(3, .ref (gA G (k0 + 3 + (M2.1 k1 1).toNatClampNeg))), (0, .ref (gA G k0)), (1, .ref (gA G k1)), (2, .int a2)]) C dX2_hear_19 (by decide) rfl ?_
  refine ky_iconst C (1 : Int32) dX2_hear_20 (by decide) ?_
  refine ky_iload_n C dX2_hear_21 3 rfl ?_
  refine ky_ishl C dX2_hear_22 ?_
  refine ky_nmi (fun x4 => ?_)
  refine ky_istore (lv' := [(4, .int x4), (3, .ref (gA G (k0 + 3 + (M2.1 k1 1).toNatClampNeg))), (0, .ref (gA G k0)), (1, .ref (gA G k1)), (2, .int a2)]) C dX2_hear_23 (by decide) rfl ?_
  refine ky_aload_n C dX2_hear_25 1 rfl ?_
  refine ky_get C (ltV hG (isVi_of hk0 hx3)) (ceV hG (isVi_of hk0 hx3)) rfl inWX3 1 (by decide) (wY_in tw_1_41) rfl rfl dX2_hear_26 ?_
  refine ky_iload C dX2_hear_29 0 rfl ?_
  refine ky_iand C dX2_hear_31 ?_
  refine ky_if_eq C 37 dX2_hear_32 (by decide) ?_ ?_
  · refine ky_aload_n C dX2_hear_37 1 rfl ?_
    refine ky_get C (ltV hG (isVi_of hk0 hx3)) (ceV hG (isVi_of hk0 hx3)) rfl inWX3 0 (by decide) (wY_in tw_1_39) rfl rfl dX2_hear_38 ?_
    refine ky_iload C dX2_hear_41 0 rfl ?_
    refine ky_iand C dX2_hear_43 ?_
    refine ky_if_ne C 74 dX2_hear_44 (by decide) ?_ ?_
    · refine ky_aload_n C dX2_hear_47 3 rfl ?_
      refine ky_get C (ltC hG hk1) (ceC hG hk1) rfl inWX0 0 (by decide) (wY_in tw_1_62) rfl rfl dX2_hear_48 ?_
      refine ky_iconst C (2 : Int32) dX2_hear_51 (by decide) ?_
      refine ky_icmp_ne C 62 dX2_hear_52 (by decide) ?_ ?_
      · refine ky_aload_n C dX2_hear_55 2 rfl ?_
        refine ky_get C (ltT hG hk0) (ceT hG hk0) rfl inWX2 3 (by decide) (wY_in tw_1_103) rfl rfl dX2_hear_56 ?_
        refine ky_if_ne C 64 dX2_hear_59 (by decide) ?_ ?_
        · refine ky_iconst C (0 : Int32) dX2_hear_62 (by decide) ?_
          exact ky_zret C (by decide) dX2_hear_63
        · refine ky_aload_n C dX2_hear_64 2 rfl ?_
          refine ky_dup C dX2_hear_65 rfl ?_
          refine ky_get C (ltT hG hk0) (ceT hG hk0) rfl inWX2 3 (by decide) (wY_in tw_1_103) rfl rfl dX2_hear_66 ?_
          refine ky_iconst C (1 : Int32) dX2_hear_69 (by decide) ?_
          refine ky_isub C dX2_hear_70 ?_
          refine ky_nmi (fun x9 => ?_)
          refine ky_put C (ltT hG hk0) (ceT hG hk0) rfl inWX2 tyX2_ok nmX2 3 (by decide) (wY_in tw_1_103) ⟨rfl, rfl⟩ (tyX2_ok 3 (by decide)) rfl rfl (Nat.le_of_ble_eq_true rfl) rfl dX2_hear_71 (fun M10 => ?_)
          exact ky_sub [3, 1, 0] rfl (jX2_hear_74 hG C F k1 (k0 + 3 + (M2.1 k1 1).toNatClampNeg) x4 M10 hk1 (isVi_of hk0 hx3))
      · refine ky_iconst C (0 : Int32) dX2_hear_62 (by decide) ?_
        exact ky_zret C (by decide) dX2_hear_63
    · exact ky_sub [3, 1, 0] rfl (jX2_hear_74 hG C F k1 (k0 + 3 + (M2.1 k1 1).toNatClampNeg) x4 M2 hk1 (isVi_of hk0 hx3))
  · refine ky_iconst C (0 : Int32) dX2_hear_35 (by decide) ?_
    exact ky_zret C (by decide) dX2_hear_36
def rmX2_needsOfAll : Room := { frames := 2, cells := 0, slots := 0, locals := 40 }
theorem hd_X2_needsOfAll : yX2_needsOfAll.cls = RX2 ∧ yX2_needsOfAll.cls ≠ "java/lang/invoke/MethodHandle" ∧ yX2_needsOfAll.cls ≠ "java/lang/invoke/VarHandle" ∧ (parseMethodDescriptor yX2_needsOfAll.desc).map (fun d => d.parameters.length) = some 0 := ⟨rfl, by decide, by decide, by decide +kernel⟩
def LX2_needsOfAll_4 (F : Nat)  : Nat → Nat → Int32 → Int32 → Mem → Option (Int32 × Mem)
  | 0, _, _, _, _ => none
  | n + 1, kv0, xv1, xv2, M => if (M.1 kv0 2) ≤ xv2 then (some (xv1, M)) else (gi xv2 4 (bd (f_X0_needs F (kv0 + 6 + xv2.toNatClampNeg) M) (fun r2 M3 => nm (xv1 + r2) (fun x4 => nm (xv2 + (1 : Int32)) (fun x5 => LX2_needsOfAll_4 F n kv0 x4 x5 M3)))))
theorem LX2_needsOfAll_4_s (F : Nat)  (n : Nat) (kv0 : Nat) (xv1 : Int32) (xv2 : Int32) (M : Mem) : LX2_needsOfAll_4 F (n + 1) kv0 xv1 xv2 M = (if (M.1 kv0 2) ≤ xv2 then (some (xv1, M)) else (gi xv2 4 (bd (f_X0_needs F (kv0 + 6 + xv2.toNatClampNeg) M) (fun r2 M3 => nm (xv1 + r2) (fun x4 => nm (xv2 + (1 : Int32)) (fun x5 => LX2_needsOfAll_4 F n kv0 x4 x5 M3)))))) := rfl
set_option maxRecDepth 100000 in
set_option maxHeartbeats 4000000 in
theorem lX2_needsOfAll_4 {G : KyG} {cy : Nat → ClassId} (hG : IsC G cy) {E : KyE} (C : Cx G E cX2_needsOfAll 3 RX2 (wY yX2_needsOfAll cX2_needsOfAll 3 (some .int)) (some .int) rmX2_needsOfAll) (F : Nat)   : ∀ (n : Nat) (kv0 : Nat) (xv1 : Int32) (xv2 : Int32) (M : Mem) (hkv0 : isTw kv0), Wo G E 3 rI (LX2_needsOfAll_4 F n kv0 xv1 xv2 M) M 4 [(0, .ref (gA G kv0)), (1, .int xv1), (2, .int xv2)] [] := by
  intro n
  induction n with
  | zero => intro kv0 xv1 xv2 M hkv0; exact ky_none
  | succ n ih =>
    intro kv0 xv1 xv2 M hkv0
    rw [LX2_needsOfAll_4_s]
    refine ky_iload_n C dX2_needsOfAll_4 2 rfl ?_
    refine ky_aload_n C dX2_needsOfAll_5 0 rfl ?_
    refine ky_get C (ltT hG hkv0) (ceT hG hkv0) rfl inWX2 2 (by decide) (wY_in tw_1_99) rfl rfl dX2_needsOfAll_6 ?_
    refine ky_icmp_ge C 30 dX2_needsOfAll_9 (by decide) ?_ ?_
    · refine ky_iload_n C dX2_needsOfAll_30 1 rfl ?_
      exact ky_iret C dX2_needsOfAll_31
    · refine ky_iload_n C dX2_needsOfAll_12 1 rfl ?_
      refine ky_aload_n C dX2_needsOfAll_13 0 rfl ?_
      refine ky_get C (ltT hG hkv0) (ceT hG hkv0) rfl inWX2 1 (by decide) (wY_in tw_1_95) rfl rfl dX2_needsOfAll_14 ?_
      refine ky_iload_n C dX2_needsOfAll_17 2 rfl ?_
      refine ky_aald C (ltCA hG hkv0) (ceCA hG hkv0) (tC3 hG) dX2_needsOfAll_18 (fun hx1 => ?_)
      refine ky_callVi C (c_X0_needs hG F (kv0 + 6 + xv2.toNatClampNeg) M (isCv_of hkv0 hx1)) (ltC hG (isCv_of hkv0 hx1)) (ceC hG (isCv_of hkv0 hx1)) rfl (wY_goodV tw_2_99 tw_2_100 tw_2_101 tw_1_4 tw_2_102) hd_X0_needs ⟨rfl, rfl, by decide, by decide⟩ rfl rfl (Nat.le_of_ble_eq_true rfl) dX2_needsOfAll_19 (fun r2 M3 => ?_)
      refine ky_iadd C dX2_needsOfAll_22 ?_
      refine ky_nmi (fun x4 => ?_)
      refine ky_istore_n (lv' := [(1, .int x4), (0, .ref (gA G kv0)), (2, .int xv2)]) C dX2_needsOfAll_23 (by decide) rfl ?_
      refine ky_iinc (lv' := fun x5 => [(2, .int x5), (1, .int x4), (0, .ref (gA G kv0))]) C dX2_needsOfAll_24 2 rfl (d1 := (1 : Int32)) rfl (by decide) (fun _ => rfl) (fun x5 => ?_)
      refine ky_goto C 4 dX2_needsOfAll_27 (by decide) ?_
      exact ky_sub [2, 1, 0] rfl (ih kv0 x4 x5 M3 hkv0)
def f_X2_needsOfAll (F : Nat) (k0 : Nat) (M : Mem) : Option (Int32 × Mem) := LX2_needsOfAll_4 F  F k0 (0 : Int32) (0 : Int32) M
set_option maxRecDepth 100000 in
set_option maxHeartbeats 4000000 in
theorem c_X2_needsOfAll {G : KyG} {cy : Nat → ClassId} (hG : IsC G cy) (F : Nat)  (k0 : Nat) (M : Mem) (hk0 : isTw k0) : Ct G yX2_needsOfAll (wY yX2_needsOfAll cX2_needsOfAll 3 (some .int)) rmX2_needsOfAll rI [.ref (gA G k0)] (f_X2_needsOfAll F k0 M) M := by
  refine Ct_of cX2_needsOfAll 3 (some .int) RX2 hG.2.2.2.1 (by decide) rfl rfl (Nat.le_of_ble_eq_true rfl) rfl (fun E C => ?_)
  unfold f_X2_needsOfAll
  refine ky_iconst C (0 : Int32) dX2_needsOfAll_0 (by decide) ?_
  refine ky_istore_n (lv' := [(1, .int (0 : Int32)), (0, .ref (gA G k0))]) C dX2_needsOfAll_1 (by decide) rfl ?_
  refine ky_iconst C (0 : Int32) dX2_needsOfAll_2 (by decide) ?_
  refine ky_istore_n (lv' := [(2, .int (0 : Int32)), (1, .int (0 : Int32)), (0, .ref (gA G k0))]) C dX2_needsOfAll_3 (by decide) rfl ?_
  exact ky_sub [2, 1, 0] rfl (lX2_needsOfAll_4 hG C F   F k0 (0 : Int32) (0 : Int32) M hk0)
def rmX2_paidCount : Room := { frames := 1, cells := 0, slots := 0, locals := 20 }
theorem hd_X2_paidCount : yX2_paidCount.cls = RX2 ∧ yX2_paidCount.cls ≠ "java/lang/invoke/MethodHandle" ∧ yX2_paidCount.cls ≠ "java/lang/invoke/VarHandle" ∧ (parseMethodDescriptor yX2_paidCount.desc).map (fun d => d.parameters.length) = some 0 := ⟨rfl, by decide, by decide, by decide +kernel⟩
def LX2_paidCount_4 (F : Nat)  : Nat → Nat → Int32 → Int32 → Mem → Option (Int32 × Mem)
  | 0, _, _, _, _ => none
  | n + 1, kv0, xv1, xv2, M => if (M.1 kv0 2) ≤ xv2 then (some (xv1, M)) else (gi xv2 4 (bd (f_X0_hasPaid F (kv0 + 6 + xv2.toNatClampNeg) M) (fun r2 M3 => if r2 = 0 then (nm (xv2 + (1 : Int32)) (fun x4 => LX2_paidCount_4 F n kv0 xv1 x4 M3)) else (nm (xv1 + (1 : Int32)) (fun x5 => nm (xv2 + (1 : Int32)) (fun x6 => LX2_paidCount_4 F n kv0 x5 x6 M3))))))
theorem LX2_paidCount_4_s (F : Nat)  (n : Nat) (kv0 : Nat) (xv1 : Int32) (xv2 : Int32) (M : Mem) : LX2_paidCount_4 F (n + 1) kv0 xv1 xv2 M = (if (M.1 kv0 2) ≤ xv2 then (some (xv1, M)) else (gi xv2 4 (bd (f_X0_hasPaid F (kv0 + 6 + xv2.toNatClampNeg) M) (fun r2 M3 => if r2 = 0 then (nm (xv2 + (1 : Int32)) (fun x4 => LX2_paidCount_4 F n kv0 xv1 x4 M3)) else (nm (xv1 + (1 : Int32)) (fun x5 => nm (xv2 + (1 : Int32)) (fun x6 => LX2_paidCount_4 F n kv0 x5 x6 M3))))))) := rfl
set_option maxRecDepth 100000 in
set_option maxHeartbeats 4000000 in
theorem lX2_paidCount_4 {G : KyG} {cy : Nat → ClassId} (hG : IsC G cy) {E : KyE} (C : Cx G E cX2_paidCount 3 RX2 (wY yX2_paidCount cX2_paidCount 3 (some .int)) (some .int) rmX2_paidCount) (F : Nat)   : ∀ (n : Nat) (kv0 : Nat) (xv1 : Int32) (xv2 : Int32) (M : Mem) (hkv0 : isTw kv0), Wo G E 3 rI (LX2_paidCount_4 F n kv0 xv1 xv2 M) M 4 [(0, .ref (gA G kv0)), (1, .int xv1), (2, .int xv2)] [] := by
  intro n
  induction n with
  | zero => intro kv0 xv1 xv2 M hkv0; exact ky_none
  | succ n ih =>
    intro kv0 xv1 xv2 M hkv0
    rw [LX2_paidCount_4_s]
    refine ky_iload_n C dX2_paidCount_4 2 rfl ?_
    refine ky_aload_n C dX2_paidCount_5 0 rfl ?_
    refine ky_get C (ltT hG hkv0) (ceT hG hkv0) rfl inWX2 2 (by decide) (wY_in tw_1_99) rfl rfl dX2_paidCount_6 ?_
    refine ky_icmp_ge C 33 dX2_paidCount_9 (by decide) ?_ ?_
    · refine ky_iload_n C dX2_paidCount_33 1 rfl ?_
      exact ky_iret C dX2_paidCount_34
    · refine ky_aload_n C dX2_paidCount_12 0 rfl ?_
      refine ky_get C (ltT hG hkv0) (ceT hG hkv0) rfl inWX2 1 (by decide) (wY_in tw_1_95) rfl rfl dX2_paidCount_13 ?_
      refine ky_iload_n C dX2_paidCount_16 2 rfl ?_
      refine ky_aald C (ltCA hG hkv0) (ceCA hG hkv0) (tC3 hG) dX2_paidCount_17 (fun hx1 => ?_)
      refine ky_callVi C (c_X0_hasPaid hG F (kv0 + 6 + xv2.toNatClampNeg) M (isCv_of hkv0 hx1)) (ltC hG (isCv_of hkv0 hx1)) (ceC hG (isCv_of hkv0 hx1)) rfl (wY_goodV tw_2_95 tw_2_96 tw_2_97 tw_1_4 tw_2_98) hd_X0_hasPaid ⟨rfl, rfl, by decide, by decide⟩ rfl rfl (Nat.le_of_ble_eq_true rfl) dX2_paidCount_18 (fun r2 M3 => ?_)
      refine ky_if_eq C 27 dX2_paidCount_21 (by decide) ?_ ?_
      · refine ky_iinc (lv' := fun x4 => [(2, .int x4), (0, .ref (gA G kv0)), (1, .int xv1)]) C dX2_paidCount_27 2 rfl (d1 := (1 : Int32)) rfl (by decide) (fun _ => rfl) (fun x4 => ?_)
        refine ky_goto C 4 dX2_paidCount_30 (by decide) ?_
        exact ky_sub [1, 2, 0] rfl (ih kv0 xv1 x4 M3 hkv0)
      · refine ky_iinc (lv' := fun x5 => [(1, .int x5), (0, .ref (gA G kv0)), (2, .int xv2)]) C dX2_paidCount_24 1 rfl (d1 := (1 : Int32)) rfl (by decide) (fun _ => rfl) (fun x5 => ?_)
        refine ky_iinc (lv' := fun x6 => [(2, .int x6), (1, .int x5), (0, .ref (gA G kv0))]) C dX2_paidCount_27 2 rfl (d1 := (1 : Int32)) rfl (by decide) (fun _ => rfl) (fun x6 => ?_)
        refine ky_goto C 4 dX2_paidCount_30 (by decide) ?_
        exact ky_sub [2, 1, 0] rfl (ih kv0 x5 x6 M3 hkv0)
def f_X2_paidCount (F : Nat) (k0 : Nat) (M : Mem) : Option (Int32 × Mem) := LX2_paidCount_4 F  F k0 (0 : Int32) (0 : Int32) M
set_option maxRecDepth 100000 in
set_option maxHeartbeats 4000000 in
theorem c_X2_paidCount {G : KyG} {cy : Nat → ClassId} (hG : IsC G cy) (F : Nat)  (k0 : Nat) (M : Mem) (hk0 : isTw k0) : Ct G yX2_paidCount (wY yX2_paidCount cX2_paidCount 3 (some .int)) rmX2_paidCount rI [.ref (gA G k0)] (f_X2_paidCount F k0 M) M := by
  refine Ct_of cX2_paidCount 3 (some .int) RX2 hG.2.2.2.1 (by decide) rfl rfl (Nat.le_of_ble_eq_true rfl) rfl (fun E C => ?_)
  unfold f_X2_paidCount
  refine ky_iconst C (0 : Int32) dX2_paidCount_0 (by decide) ?_
  refine ky_istore_n (lv' := [(1, .int (0 : Int32)), (0, .ref (gA G k0))]) C dX2_paidCount_1 (by decide) rfl ?_
  refine ky_iconst C (0 : Int32) dX2_paidCount_2 (by decide) ?_
  refine ky_istore_n (lv' := [(2, .int (0 : Int32)), (1, .int (0 : Int32)), (0, .ref (gA G k0))]) C dX2_paidCount_3 (by decide) rfl ?_
  exact ky_sub [2, 1, 0] rfl (lX2_paidCount_4 hG C F   F k0 (0 : Int32) (0 : Int32) M hk0)
def rmX2_truthsOfAll : Room := { frames := 1, cells := 0, slots := 0, locals := 20 }
theorem hd_X2_truthsOfAll : yX2_truthsOfAll.cls = RX2 ∧ yX2_truthsOfAll.cls ≠ "java/lang/invoke/MethodHandle" ∧ yX2_truthsOfAll.cls ≠ "java/lang/invoke/VarHandle" ∧ (parseMethodDescriptor yX2_truthsOfAll.desc).map (fun d => d.parameters.length) = some 0 := ⟨rfl, by decide, by decide, by decide +kernel⟩
def LX2_truthsOfAll_4 (F : Nat)  : Nat → Nat → Int32 → Int32 → Mem → Option (Int32 × Mem)
  | 0, _, _, _, _ => none
  | n + 1, kv0, xv1, xv2, M => if (3 : Int32) ≤ xv2 then (some (xv1, M)) else (gi xv2 3 (bd (f_J6_bitCount_0f7a4 F (M.1 (kv0 + 3 + xv2.toNatClampNeg) 0) M) (fun r2 M3 => nm (xv1 + r2) (fun x4 => nm (xv2 + (1 : Int32)) (fun x5 => LX2_truthsOfAll_4 F n kv0 x4 x5 M3)))))
theorem LX2_truthsOfAll_4_s (F : Nat)  (n : Nat) (kv0 : Nat) (xv1 : Int32) (xv2 : Int32) (M : Mem) : LX2_truthsOfAll_4 F (n + 1) kv0 xv1 xv2 M = (if (3 : Int32) ≤ xv2 then (some (xv1, M)) else (gi xv2 3 (bd (f_J6_bitCount_0f7a4 F (M.1 (kv0 + 3 + xv2.toNatClampNeg) 0) M) (fun r2 M3 => nm (xv1 + r2) (fun x4 => nm (xv2 + (1 : Int32)) (fun x5 => LX2_truthsOfAll_4 F n kv0 x4 x5 M3)))))) := rfl
set_option maxRecDepth 100000 in
set_option maxHeartbeats 4000000 in
theorem lX2_truthsOfAll_4 {G : KyG} {cy : Nat → ClassId} (hG : IsC G cy) {E : KyE} (C : Cx G E cX2_truthsOfAll 3 RX2 (wY yX2_truthsOfAll cX2_truthsOfAll 3 (some .int)) (some .int) rmX2_truthsOfAll) (F : Nat)   : ∀ (n : Nat) (kv0 : Nat) (xv1 : Int32) (xv2 : Int32) (M : Mem) (hkv0 : isTw kv0), Wo G E 3 rI (LX2_truthsOfAll_4 F n kv0 xv1 xv2 M) M 4 [(0, .ref (gA G kv0)), (1, .int xv1), (2, .int xv2)] [] := by
  intro n
  induction n with
  | zero => intro kv0 xv1 xv2 M hkv0; exact ky_none
  | succ n ih =>
    intro kv0 xv1 xv2 M hkv0
    rw [LX2_truthsOfAll_4_s]
    refine ky_iload_n C dX2_truthsOfAll_4 2 rfl ?_
    refine ky_iconst C (3 : Int32) dX2_truthsOfAll_5 (by decide) ?_
    refine ky_icmp_ge C 30 dX2_truthsOfAll_6 (by decide) ?_ ?_
    · refine ky_iload_n C dX2_truthsOfAll_30 1 rfl ?_
      exact ky_iret C dX2_truthsOfAll_31
    · refine ky_iload_n C dX2_truthsOfAll_9 1 rfl ?_
      refine ky_aload_n C dX2_truthsOfAll_10 0 rfl ?_
      refine ky_get C (ltT hG hkv0) (ceT hG hkv0) rfl inWX2 0 (by decide) (wY_in tw_1_93) rfl rfl dX2_truthsOfAll_11 ?_
      refine ky_iload_n C dX2_truthsOfAll_14 2 rfl ?_
      refine ky_aald C (ltVA hG hkv0) (ceVA hG hkv0) (tC2 hG) dX2_truthsOfAll_15 (fun hx1 => ?_)
      refine ky_get C (ltV hG (isVi_of hkv0 hx1)) (ceV hG (isVi_of hkv0 hx1)) rfl inWX3 0 (by decide) (wY_in tw_1_39) rfl rfl dX2_truthsOfAll_16 ?_
      refine ky_callSi C (c_J6_bitCount_0f7a4 hG F (M.1 (kv0 + 3 + xv2.toNatClampNeg) 0) M ) (wY_goodS tw_2_38 tw_2_39 tw_1_12 tw_2_40) hd_J6_bitCount_0f7a4 ⟨rfl, rfl, by decide, by decide⟩ rfl rfl (Nat.le_of_ble_eq_true rfl) dX2_truthsOfAll_19 (fun r2 M3 => ?_)
      refine ky_iadd C dX2_truthsOfAll_22 ?_
      refine ky_nmi (fun x4 => ?_)
      refine ky_istore_n (lv' := [(1, .int x4), (0, .ref (gA G kv0)), (2, .int xv2)]) C dX2_truthsOfAll_23 (by decide) rfl ?_
      refine ky_iinc (lv' := fun x5 => [(2, .int x5), (1, .int x4), (0, .ref (gA G kv0))]) C dX2_truthsOfAll_24 2 rfl (d1 := (1 : Int32)) rfl (by decide) (fun _ => rfl) (fun x5 => ?_)
      refine ky_goto C 4 dX2_truthsOfAll_27 (by decide) ?_
      exact ky_sub [2, 1, 0] rfl (ih kv0 x4 x5 M3 hkv0)
def f_X2_truthsOfAll (F : Nat) (k0 : Nat) (M : Mem) : Option (Int32 × Mem) := LX2_truthsOfAll_4 F  F k0 (0 : Int32) (0 : Int32) M
set_option maxRecDepth 100000 in
set_option maxHeartbeats 4000000 in
theorem c_X2_truthsOfAll {G : KyG} {cy : Nat → ClassId} (hG : IsC G cy) (F : Nat)  (k0 : Nat) (M : Mem) (hk0 : isTw k0) : Ct G yX2_truthsOfAll (wY yX2_truthsOfAll cX2_truthsOfAll 3 (some .int)) rmX2_truthsOfAll rI [.ref (gA G k0)] (f_X2_truthsOfAll F k0 M) M := by
  refine Ct_of cX2_truthsOfAll 3 (some .int) RX2 hG.2.2.2.1 (by decide) rfl rfl (Nat.le_of_ble_eq_true rfl) rfl (fun E C => ?_)
  unfold f_X2_truthsOfAll
  refine ky_iconst C (0 : Int32) dX2_truthsOfAll_0 (by decide) ?_
  refine ky_istore_n (lv' := [(1, .int (0 : Int32)), (0, .ref (gA G k0))]) C dX2_truthsOfAll_1 (by decide) rfl ?_
  refine ky_iconst C (0 : Int32) dX2_truthsOfAll_2 (by decide) ?_
  refine ky_istore_n (lv' := [(2, .int (0 : Int32)), (1, .int (0 : Int32)), (0, .ref (gA G k0))]) C dX2_truthsOfAll_3 (by decide) rfl ?_
  exact ky_sub [2, 1, 0] rfl (lX2_truthsOfAll_4 hG C F   F k0 (0 : Int32) (0 : Int32) M hk0)
def rmX2_usedOfAll : Room := { frames := 1, cells := 0, slots := 0, locals := 20 }
theorem hd_X2_usedOfAll : yX2_usedOfAll.cls = RX2 ∧ yX2_usedOfAll.cls ≠ "java/lang/invoke/MethodHandle" ∧ yX2_usedOfAll.cls ≠ "java/lang/invoke/VarHandle" ∧ (parseMethodDescriptor yX2_usedOfAll.desc).map (fun d => d.parameters.length) = some 0 := ⟨rfl, by decide, by decide, by decide +kernel⟩
def LX2_usedOfAll_4 (F : Nat)  : Nat → Nat → Int32 → Int32 → Mem → Option (Int32 × Mem)
  | 0, _, _, _, _ => none
  | n + 1, kv0, xv1, xv2, M => if (3 : Int32) ≤ xv2 then (some (xv1, M)) else (gi xv2 3 (bd (f_J6_bitCount_0f7a4 F (M.1 (kv0 + 3 + xv2.toNatClampNeg) 1) M) (fun r2 M3 => nm (xv1 + r2) (fun x4 => nm (xv2 + (1 : Int32)) (fun x5 => LX2_usedOfAll_4 F n kv0 x4 x5 M3)))))
theorem LX2_usedOfAll_4_s (F : Nat)  (n : Nat) (kv0 : Nat) (xv1 : Int32) (xv2 : Int32) (M : Mem) : LX2_usedOfAll_4 F (n + 1) kv0 xv1 xv2 M = (if (3 : Int32) ≤ xv2 then (some (xv1, M)) else (gi xv2 3 (bd (f_J6_bitCount_0f7a4 F (M.1 (kv0 + 3 + xv2.toNatClampNeg) 1) M) (fun r2 M3 => nm (xv1 + r2) (fun x4 => nm (xv2 + (1 : Int32)) (fun x5 => LX2_usedOfAll_4 F n kv0 x4 x5 M3)))))) := rfl
set_option maxRecDepth 100000 in
set_option maxHeartbeats 4000000 in
theorem lX2_usedOfAll_4 {G : KyG} {cy : Nat → ClassId} (hG : IsC G cy) {E : KyE} (C : Cx G E cX2_usedOfAll 3 RX2 (wY yX2_usedOfAll cX2_usedOfAll 3 (some .int)) (some .int) rmX2_usedOfAll) (F : Nat)   : ∀ (n : Nat) (kv0 : Nat) (xv1 : Int32) (xv2 : Int32) (M : Mem) (hkv0 : isTw kv0), Wo G E 3 rI (LX2_usedOfAll_4 F n kv0 xv1 xv2 M) M 4 [(0, .ref (gA G kv0)), (1, .int xv1), (2, .int xv2)] [] := by
  intro n
  induction n with
  | zero => intro kv0 xv1 xv2 M hkv0; exact ky_none
  | succ n ih =>
    intro kv0 xv1 xv2 M hkv0
    rw [LX2_usedOfAll_4_s]
    refine ky_iload_n C dX2_usedOfAll_4 2 rfl ?_
    refine ky_iconst C (3 : Int32) dX2_usedOfAll_5 (by decide) ?_
    refine ky_icmp_ge C 30 dX2_usedOfAll_6 (by decide) ?_ ?_
    · refine ky_iload_n C dX2_usedOfAll_30 1 rfl ?_
      exact ky_iret C dX2_usedOfAll_31
    · refine ky_iload_n C dX2_usedOfAll_9 1 rfl ?_
      refine ky_aload_n C dX2_usedOfAll_10 0 rfl ?_
      refine ky_get C (ltT hG hkv0) (ceT hG hkv0) rfl inWX2 0 (by decide) (wY_in tw_1_93) rfl rfl dX2_usedOfAll_11 ?_
      refine ky_iload_n C dX2_usedOfAll_14 2 rfl ?_
      refine ky_aald C (ltVA hG hkv0) (ceVA hG hkv0) (tC2 hG) dX2_usedOfAll_15 (fun hx1 => ?_)
      refine ky_get C (ltV hG (isVi_of hkv0 hx1)) (ceV hG (isVi_of hkv0 hx1)) rfl inWX3 1 (by decide) (wY_in tw_1_41) rfl rfl dX2_usedOfAll_16 ?_
      refine ky_callSi C (c_J6_bitCount_0f7a4 hG F (M.1 (kv0 + 3 + xv2.toNatClampNeg) 1) M ) (wY_goodS tw_2_38 tw_2_39 tw_1_12 tw_2_40) hd_J6_bitCount_0f7a4 ⟨rfl, rfl, by decide, by decide⟩ rfl rfl (Nat.le_of_ble_eq_true rfl) dX2_usedOfAll_19 (fun r2 M3 => ?_)
      refine ky_iadd C dX2_usedOfAll_22 ?_
      refine ky_nmi (fun x4 => ?_)
      refine ky_istore_n (lv' := [(1, .int x4), (0, .ref (gA G kv0)), (2, .int xv2)]) C dX2_usedOfAll_23 (by decide) rfl ?_
      refine ky_iinc (lv' := fun x5 => [(2, .int x5), (1, .int x4), (0, .ref (gA G kv0))]) C dX2_usedOfAll_24 2 rfl (d1 := (1 : Int32)) rfl (by decide) (fun _ => rfl) (fun x5 => ?_)
      refine ky_goto C 4 dX2_usedOfAll_27 (by decide) ?_
      exact ky_sub [2, 1, 0] rfl (ih kv0 x4 x5 M3 hkv0)
def f_X2_usedOfAll (F : Nat) (k0 : Nat) (M : Mem) : Option (Int32 × Mem) := LX2_usedOfAll_4 F  F k0 (0 : Int32) (0 : Int32) M
set_option maxRecDepth 100000 in
set_option maxHeartbeats 4000000 in
theorem c_X2_usedOfAll {G : KyG} {cy : Nat → ClassId} (hG : IsC G cy) (F : Nat)  (k0 : Nat) (M : Mem) (hk0 : isTw k0) : Ct G yX2_usedOfAll (wY yX2_usedOfAll cX2_usedOfAll 3 (some .int)) rmX2_usedOfAll rI [.ref (gA G k0)] (f_X2_usedOfAll F k0 M) M := by
  refine Ct_of cX2_usedOfAll 3 (some .int) RX2 hG.2.2.2.1 (by decide) rfl rfl (Nat.le_of_ble_eq_true rfl) rfl (fun E C => ?_)
  unfold f_X2_usedOfAll
  refine ky_iconst C (0 : Int32) dX2_usedOfAll_0 (by decide) ?_
  refine ky_istore_n (lv' := [(1, .int (0 : Int32)), (0, .ref (gA G k0))]) C dX2_usedOfAll_1 (by decide) rfl ?_
  refine ky_iconst C (0 : Int32) dX2_usedOfAll_2 (by decide) ?_
  refine ky_istore_n (lv' := [(2, .int (0 : Int32)), (1, .int (0 : Int32)), (0, .ref (gA G k0))]) C dX2_usedOfAll_3 (by decide) rfl ?_
  exact ky_sub [2, 1, 0] rfl (lX2_usedOfAll_4 hG C F   F k0 (0 : Int32) (0 : Int32) M hk0)
