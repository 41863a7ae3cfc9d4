def rmX6_aDay : Room := { frames := 0, cells := 0, slots := 0, locals := 0 }
theorem hd_X6_aDay : yX6_aDay.cls ≠ "java/lang/invoke/MethodHandle" ∧ yX6_aDay.cls ≠ "java/lang/invoke/VarHandle" ∧ (parseMethodDescriptor yX6_aDay.desc).map (fun d => d.parameters.length) = some 1 := ⟨by decide, by decide, by decide +kernel⟩
def f_X6_aDay (F : Nat) (a0 : Int32) (M : Mem) : Option (Int32 × Mem) := if a0 = (1 : Int32) then (some ((2 : Int32), M)) else (if a0 = (4 : Int32) then (some ((3 : Int32), M)) else (some ((1 : Int32), M)))
set_option maxRecDepth 100000 in
set_option maxHeartbeats 4000000 in
theorem c_X6_aDay {G : KyG} {cy : ClassId} (hG : IsR G cy) (F : Nat)  (a0 : Int32) (M : Mem)  : Ct G yX6_aDay (wY yX6_aDay cX6_aDay 1 (some .int)) rmX6_aDay rI [.int a0] (f_X6_aDay F a0 M) M := by
  refine Ct_of cX6_aDay 1 (some .int) RX6 hG.2.2.2 (by decide) rfl rfl (Nat.le_of_ble_eq_true rfl) rfl (fun E C => ?_)
  unfold f_X6_aDay
  refine ky_iload_n C dX6_aDay_0 0 rfl ?_
  refine ky_iconst C (1 : Int32) dX6_aDay_1 (by decide) ?_
  refine ky_icmp_ne C 9 dX6_aDay_2 (by decide) ?_ ?_
  · refine ky_iconst C (2 : Int32) dX6_aDay_5 (by decide) ?_
    refine ky_goto C 19 dX6_aDay_6 (by decide) ?_
    exact ky_iret C dX6_aDay_19
  · refine ky_iload_n C dX6_aDay_9 0 rfl ?_
    refine ky_iconst C (4 : Int32) dX6_aDay_10 (by decide) ?_
    refine ky_icmp_ne C 18 dX6_aDay_11 (by decide) ?_ ?_
    · refine ky_iconst C (3 : Int32) dX6_aDay_14 (by decide) ?_
      refine ky_goto C 19 dX6_aDay_15 (by decide) ?_
      exact ky_iret C dX6_aDay_19
    · refine ky_iconst C (1 : Int32) dX6_aDay_18 (by decide) ?_
      exact ky_iret C dX6_aDay_19
def rmX6_in : Room := { frames := 0, cells := 0, slots := 0, locals := 0 }
theorem hd_X6_in : yX6_in.cls ≠ "java/lang/invoke/MethodHandle" ∧ yX6_in.cls ≠ "java/lang/invoke/VarHandle" ∧ (parseMethodDescriptor yX6_in.desc).map (fun d => d.parameters.length) = some 3 := ⟨by decide, by decide, by decide +kernel⟩
def f_X6_in (F : Nat) (a0 : Int64) (a2 : Int64) (a4 : Int64) (M : Mem) : Option (Int32 × Mem) := if (lg_cmp a0 a2) < 0 then (some ((0 : Int32), M)) else (if 0 < (lg_cmp a0 a4) then (some ((0 : Int32), M)) else (some ((1 : Int32), M)))
set_option maxRecDepth 100000 in
set_option maxHeartbeats 4000000 in
theorem c_X6_in {G : KyG} {cy : ClassId} (hG : IsR G cy) (F : Nat)  (a0 : Int64) (a2 : Int64) (a4 : Int64) (M : Mem)  : Ct G yX6_in (wY yX6_in cX6_in 6 (some .boolean)) rmX6_in rI [.long a0, .long a2, .long a4] (f_X6_in F a0 a2 a4 M) M := by
  refine Ct_of cX6_in 6 (some .boolean) RX6 hG.2.2.2 (by decide) rfl rfl (Nat.le_of_ble_eq_true rfl) rfl (fun E C => ?_)
  unfold f_X6_in
  refine ky_lload_n C dX6_in_0 0 rfl ?_
  refine ky_lload_n C dX6_in_1 1 rfl ?_
  refine ky_lcmp C dX6_in_2 ?_
  refine ky_if_lt C 17 dX6_in_3 (by decide) ?_ ?_
  · refine ky_iconst C (0 : Int32) dX6_in_17 (by decide) ?_
    exact ky_zret C (by decide) dX6_in_18
  · refine ky_lload_n C dX6_in_6 0 rfl ?_
    refine ky_lload C dX6_in_7 2 rfl ?_
    refine ky_lcmp C dX6_in_9 ?_
    refine ky_if_gt C 17 dX6_in_10 (by decide) ?_ ?_
    · refine ky_iconst C (0 : Int32) dX6_in_17 (by decide) ?_
      exact ky_zret C (by decide) dX6_in_18
    · refine ky_iconst C (1 : Int32) dX6_in_13 (by decide) ?_
      refine ky_goto C 18 dX6_in_14 (by decide) ?_
      exact ky_zret C (by decide) dX6_in_18
def rmX6_isConvict : Room := { frames := 1, cells := 0, slots := 0, locals := 25 }
theorem hd_X6_isConvict : yX6_isConvict.cls = RX6 ∧ yX6_isConvict.cls ≠ "java/lang/invoke/MethodHandle" ∧ yX6_isConvict.cls ≠ "java/lang/invoke/VarHandle" ∧ (parseMethodDescriptor yX6_isConvict.desc).map (fun d => d.parameters.length) = some 1 := ⟨rfl, by decide, by decide, by decide +kernel⟩
def f_X6_isConvict (F : Nat) (a1 : Int32) (M : Mem) : Option (Int32 × Mem) := bd (f_X6_in F a1.toInt64 (0 : Int64) (((M.1 0 8) - (1 : Int32)).toInt64) M) (fun r1 M2 => gb r1 (some (r1, M2)))
set_option maxRecDepth 100000 in
set_option maxHeartbeats 4000000 in
theorem c_X6_isConvict {G : KyG} {cy : ClassId} (hG : IsR G cy) (F : Nat)  (a1 : Int32) (M : Mem)  : Ct G yX6_isConvict (wY yX6_isConvict cX6_isConvict 2 (some .boolean)) rmX6_isConvict rI [.ref (gA G 0), .int a1] (f_X6_isConvict F a1 M) M := by
  refine Ct_of cX6_isConvict 2 (some .boolean) RX6 hG.2.2.2 (by decide) rfl rfl (Nat.le_of_ble_eq_true rfl) rfl (fun E C => ?_)
  unfold f_X6_isConvict
  refine ky_iload_n C dX6_isConvict_0 1 rfl ?_
  refine ky_i2l C dX6_isConvict_1 ?_
  refine ky_lconst C (0 : Int64) dX6_isConvict_2 (by decide) ?_
  refine ky_aload_n C dX6_isConvict_3 0 rfl ?_
  refine ky_get C (ltR hG) (ceR hG) rfl inWX6 8 (by decide) (wY_in tw_3_78) rfl rfl dX6_isConvict_4 ?_
  refine ky_iconst C (1 : Int32) dX6_isConvict_7 (by decide) ?_
  refine ky_isub C dX6_isConvict_8 ?_
  refine ky_i2l C dX6_isConvict_9 ?_
  refine ky_callSi C (c_X6_in hG F a1.toInt64 (0 : Int64) (((M.1 0 8) - (1 : Int32)).toInt64) M ) (wY_goodS tw_3_157 tw_3_158 tw_1_7 tw_3_159) hd_X6_in ⟨rfl, rfl, by decide, by decide⟩ rfl rfl (Nat.le_of_ble_eq_true rfl) dX6_isConvict_10 (fun r1 M2 => ?_)
  exact ky_zretG C dX6_isConvict_13
def rmX6_leftOf : Room := { frames := 0, cells := 0, slots := 0, locals := 0 }
theorem hd_X6_leftOf : yX6_leftOf.cls = RX6 ∧ yX6_leftOf.cls ≠ "java/lang/invoke/MethodHandle" ∧ yX6_leftOf.cls ≠ "java/lang/invoke/VarHandle" ∧ (parseMethodDescriptor yX6_leftOf.desc).map (fun d => d.parameters.length) = some 1 := ⟨rfl, by decide, by decide, by decide +kernel⟩
def f_X6_leftOf (F : Nat) (a1 : Int32) (M : Mem) : Option (Int32 × Mem) := gi (((6 : Int32) * a1) + (1 : Int32)) 24 (nm (M.1 4 (((6 : Int32) * a1) + (1 : Int32)).toNatClampNeg) (fun x2 => gi (((6 : Int32) * a1) + (3 : Int32)) 24 (gi x2 3 (gi x2 3 (some (((M.1 4 (((6 : Int32) * a1) + (3 : Int32)).toNatClampNeg) &&& (M.1 2 x2.toNatClampNeg)) &&& ((M.1 3 x2.toNatClampNeg) ^^^ (mI 1)), M))))))
set_option maxRecDepth 100000 in
set_option maxHeartbeats 4000000 in
theorem c_X6_leftOf {G : KyG} {cy : ClassId} (hG : IsR G cy) (F : Nat)  (a1 : Int32) (M : Mem)  : Ct G yX6_leftOf (wY yX6_leftOf cX6_leftOf 3 (some .int)) rmX6_leftOf rI [.ref (gA G 0), .int a1] (f_X6_leftOf F a1 M) M := by
  refine Ct_of cX6_leftOf 3 (some .int) RX6 hG.2.2.2 (by decide) rfl rfl (Nat.le_of_ble_eq_true rfl) rfl (fun E C => ?_)
  unfold f_X6_leftOf
  refine ky_aload_n C dX6_leftOf_0 0 rfl ?_
  refine ky_get C (ltR hG) (ceR hG) rfl inWX6 9 (by decide) (wY_in tw_3_79) rfl rfl dX6_leftOf_1 ?_
  refine ky_bipush C (6 : Int32) dX6_leftOf_4 (by decide) ?_
  refine ky_iload_n C dX6_leftOf_6 1 rfl ?_
  refine ky_imul C dX6_leftOf_7 ?_
  refine ky_iconst C (1 : Int32) dX6_leftOf_8 (by decide) ?_
  refine ky_iadd C dX6_leftOf_9 ?_
  refine ky_iald C (ltA hG ar4) (ceA4 hG) (tR0 hG) dX6_leftOf_10 (fun hx1 => ?_)
  refine ky_nmi (fun x2 => ?_)
  refine ky_istore_n (lv' := [(2, .int x2), (0, .ref (gA G 0)), (1, .int a1)]) C dX6_leftOf_11 (by decide) rfl ?_
  refine ky_aload_n C dX6_leftOf_12 1 rfl ?_
  refine ky_get C (ltR hG) (ceR hG) rfl inWX6 9 (by decide) (wY_in tw_3_79) rfl rfl dX6_leftOf_13 ?_
  refine ky_bipush C (6 : Int32) dX6_leftOf_16 (by decide) ?_
  refine ky_iload_n C dX6_leftOf_18 2 rfl ?_
  refine ky_imul C dX6_leftOf_19 ?_
  refine ky_iconst C (3 : Int32) dX6_leftOf_20 (by decide) ?_
  refine ky_iadd C dX6_leftOf_21 ?_
  refine ky_iald C (ltA hG ar4) (ceA4 hG) (tR0 hG) dX6_leftOf_22 (fun hx3 => ?_)
  refine ky_aload_n C dX6_leftOf_23 1 rfl ?_
  refine ky_get C (ltR hG) (ceR hG) rfl inWX6 6 (by decide) (wY_in tw_3_76) rfl rfl dX6_leftOf_24 ?_
  refine ky_iload_n C dX6_leftOf_27 0 rfl ?_
  refine ky_iald C (ltA hG ar2) (ceA2 hG) (tR0 hG) dX6_leftOf_28 (fun hx4 => ?_)
  refine ky_iand C dX6_leftOf_29 ?_
  refine ky_aload_n C dX6_leftOf_30 1 rfl ?_
  refine ky_get C (ltR hG) (ceR hG) rfl inWX6 7 (by decide) (wY_in tw_3_77) rfl rfl dX6_leftOf_31 ?_
  refine ky_iload_n C dX6_leftOf_34 0 rfl ?_
  refine ky_iald C (ltA hG ar3) (ceA3 hG) (tR0 hG) dX6_leftOf_35 (fun hx5 => ?_)
  refine ky_iconst C (mI 1) dX6_leftOf_36 (by decide) ?_
  refine ky_ixor C dX6_leftOf_37 ?_
  refine ky_iand C dX6_leftOf_38 ?_
  exact ky_iret C dX6_leftOf_39
def rmX6_needsOf : Room := { frames := 0, cells := 0, slots := 0, locals := 0 }
theorem hd_X6_needsOf : yX6_needsOf.cls = RX6 ∧ yX6_needsOf.cls ≠ "java/lang/invoke/MethodHandle" ∧ yX6_needsOf.cls ≠ "java/lang/invoke/VarHandle" ∧ (parseMethodDescriptor yX6_needsOf.desc).map (fun d => d.parameters.length) = some 1 := ⟨rfl, by decide, by decide, by decide +kernel⟩
def f_X6_needsOf (F : Nat) (a1 : Int32) (M : Mem) : Option (Int32 × Mem) := gi (((6 : Int32) * a1) + (2 : Int32)) 24 (nm (M.1 4 (((6 : Int32) * a1) + (2 : Int32)).toNatClampNeg) (fun x2 => gi ((6 : Int32) * a1) 24 (if (M.1 4 ((6 : Int32) * a1).toNatClampNeg) = (3 : Int32) then (if x2 ≤ 0 then (some (x2, M)) else (gi (((6 : Int32) * a1) + (5 : Int32)) 24 (some (((2 : Int32) * x2) - ((M.1 4 (((6 : Int32) * a1) + (5 : Int32)).toNatClampNeg) - (M.1 4 (((6 : Int32) * a1) + (5 : Int32)).toNatClampNeg) / (2 : Int32) * (2 : Int32)), M)))) else (some (x2, M)))))
set_option maxRecDepth 100000 in
set_option maxHeartbeats 4000000 in
theorem c_X6_needsOf {G : KyG} {cy : ClassId} (hG : IsR G cy) (F : Nat)  (a1 : Int32) (M : Mem)  : Ct G yX6_needsOf (wY yX6_needsOf cX6_needsOf 3 (some .int)) rmX6_needsOf rI [.ref (gA G 0), .int a1] (f_X6_needsOf F a1 M) M := by
  refine Ct_of cX6_needsOf 3 (some .int) RX6 hG.2.2.2 (by decide) rfl rfl (Nat.le_of_ble_eq_true rfl) rfl (fun E C => ?_)
  unfold f_X6_needsOf
  refine ky_aload_n C dX6_needsOf_0 0 rfl ?_
  refine ky_get C (ltR hG) (ceR hG) rfl inWX6 9 (by decide) (wY_in tw_3_79) rfl rfl dX6_needsOf_1 ?_
  refine ky_bipush C (6 : Int32) dX6_needsOf_4 (by decide) ?_
  refine ky_iload_n C dX6_needsOf_6 1 rfl ?_
  refine ky_imul C dX6_needsOf_7 ?_
  refine ky_iconst C (2 : Int32) dX6_needsOf_8 (by decide) ?_
  refine ky_iadd C dX6_needsOf_9 ?_
  refine ky_iald C (ltA hG ar4) (ceA4 hG) (tR0 hG) dX6_needsOf_10 (fun hx1 => ?_)
  refine ky_nmi (fun x2 => ?_)
  refine ky_istore_n (lv' := [(2, .int x2), (0, .ref (gA G 0)), (1, .int a1)]) C dX6_needsOf_11 (by decide) rfl ?_
  refine ky_aload_n C dX6_needsOf_12 1 rfl ?_
  refine ky_get C (ltR hG) (ceR hG) rfl inWX6 9 (by decide) (wY_in tw_3_79) rfl rfl dX6_needsOf_13 ?_
  refine ky_bipush C (6 : Int32) dX6_needsOf_16 (by decide) ?_
  refine ky_iload_n C dX6_needsOf_18 2 rfl ?_
  refine ky_imul C dX6_needsOf_19 ?_
  refine ky_iald C (ltA hG ar4) (ceA4 hG) (tR0 hG) dX6_needsOf_20 (fun hx3 => ?_)
  refine ky_iconst C (3 : Int32) dX6_needsOf_21 (by decide) ?_
  refine ky_icmp_ne C 49 dX6_needsOf_22 (by decide) ?_ ?_
  · refine ky_iload_n C dX6_needsOf_25 0 rfl ?_
    refine ky_if_le C 49 dX6_needsOf_26 (by decide) ?_ ?_
    · refine ky_iload_n C dX6_needsOf_49 0 rfl ?_
      exact ky_iret C dX6_needsOf_50
    · refine ky_iconst C (2 : Int32) dX6_needsOf_29 (by decide) ?_
      refine ky_iload_n C dX6_needsOf_30 0 rfl ?_
      refine ky_imul C dX6_needsOf_31 ?_
      refine ky_aload_n C dX6_needsOf_32 1 rfl ?_
      refine ky_get C (ltR hG) (ceR hG) rfl inWX6 9 (by decide) (wY_in tw_3_79) rfl rfl dX6_needsOf_33 ?_
      refine ky_bipush C (6 : Int32) dX6_needsOf_36 (by decide) ?_
      refine ky_iload_n C dX6_needsOf_38 2 rfl ?_
      refine ky_imul C dX6_needsOf_39 ?_
      refine ky_iconst C (5 : Int32) dX6_needsOf_40 (by decide) ?_
      refine ky_iadd C dX6_needsOf_41 ?_
      refine ky_iald C (ltA hG ar4) (ceA4 hG) (tR0 hG) dX6_needsOf_42 (fun hx4 => ?_)
      refine ky_iconst C (2 : Int32) dX6_needsOf_43 (by decide) ?_
      refine ky_irem C dX6_needsOf_44 (by decide) ?_
      refine ky_isub C dX6_needsOf_45 ?_
      refine ky_goto C 50 dX6_needsOf_46 (by decide) ?_
      exact ky_iret C dX6_needsOf_50
  · refine ky_iload_n C dX6_needsOf_49 0 rfl ?_
    exact ky_iret C dX6_needsOf_50
def rmX6_ones : Room := { frames := 0, cells := 0, slots := 0, locals := 0 }
theorem hd_X6_ones : yX6_ones.cls ≠ "java/lang/invoke/MethodHandle" ∧ yX6_ones.cls ≠ "java/lang/invoke/VarHandle" ∧ (parseMethodDescriptor yX6_ones.desc).map (fun d => d.parameters.length) = some 1 := ⟨by decide, by decide, by decide +kernel⟩
def LX6_ones_4 (F : Nat)  : Nat → Int32 → Int32 → Int32 → Mem → Option (Int32 × Mem)
  | 0, _, _, _, _ => none
  | n + 1, xv0, xv1, xv2, M => if (6 : Int32) ≤ xv2 then (some (xv1, M)) else (nm (xv1 + ((xv0 >>> (xv2 &&& 31)) &&& (1 : Int32))) (fun x1 => nm (xv2 + (1 : Int32)) (fun x2 => LX6_ones_4 F n xv0 x1 x2 M)))
theorem LX6_ones_4_s (F : Nat)  (n : Nat) (xv0 : Int32) (xv1 : Int32) (xv2 : Int32) (M : Mem) : LX6_ones_4 F (n + 1) xv0 xv1 xv2 M = (if (6 : Int32) ≤ xv2 then (some (xv1, M)) else (nm (xv1 + ((xv0 >>> (xv2 &&& 31)) &&& (1 : Int32))) (fun x1 => nm (xv2 + (1 : Int32)) (fun x2 => LX6_ones_4 F n xv0 x1 x2 M)))) := rfl
set_option maxRecDepth 100000 in
set_option maxHeartbeats 4000000 in
theorem lX6_ones_4 {G : KyG} {cy : ClassId} (hG : IsR G cy) {E : KyE} (C : Cx G E cX6_ones 3 RX6 (wY yX6_ones cX6_ones 3 (some .int)) (some .int) rmX6_ones) (F : Nat)   : ∀ (n : Nat) (xv0 : Int32) (xv1 : Int32) (xv2 : Int32) (M : Mem) , Wo G E 3 rI (LX6_ones_4 F n xv0 xv1 xv2 M) M 4 [(0, .int xv0), (1, .int xv1), (2, .int xv2)] [] := by
  intro n
  induction n with
  | zero => intro xv0 xv1 xv2 M ; exact ky_none
  | succ n ih =>
    intro xv0 xv1 xv2 M 
    rw [LX6_ones_4_s]
    refine ky_iload_n C dX6_ones_4 2 rfl ?_
    refine ky_bipush C (6 : Int32) dX6_ones_5 (by decide) ?_
    refine ky_icmp_ge C 24 dX6_ones_7 (by decide) ?_ ?_
    · refine ky_iload_n C dX6_ones_24 1 rfl ?_
      exact ky_iret C dX6_ones_25
    · refine ky_iload_n C dX6_ones_10 1 rfl ?_
      refine ky_iload_n C dX6_ones_11 0 rfl ?_
      refine ky_iload_n C dX6_ones_12 2 rfl ?_
      refine ky_ishr C dX6_ones_13 ?_
      refine ky_iconst C (1 : Int32) dX6_ones_14 (by decide) ?_
      refine ky_iand C dX6_ones_15 ?_
      refine ky_iadd C dX6_ones_16 ?_
      refine ky_nmi (fun x1 => ?_)
      refine ky_istore_n (lv' := [(1, .int x1), (0, .int xv0), (2, .int xv2)]) C dX6_ones_17 (by decide) rfl ?_
      refine ky_iinc (lv' := fun x2 => [(2, .int x2), (1, .int x1), (0, .int xv0)]) C dX6_ones_18 2 rfl (d1 := (1 : Int32)) rfl (by decide) (fun _ => rfl) (fun x2 => ?_)
      refine ky_goto C 4 dX6_ones_21 (by decide) ?_
      exact ky_sub [2, 1, 0] rfl (ih xv0 x1 x2 M )
def f_X6_ones (F : Nat) (a0 : Int32) (M : Mem) : Option (Int32 × Mem) := LX6_ones_4 F  F a0 (0 : Int32) (0 : Int32) M
set_option maxRecDepth 100000 in
set_option maxHeartbeats 4000000 in
theorem c_X6_ones {G : KyG} {cy : ClassId} (hG : IsR G cy) (F : Nat)  (a0 : Int32) (M : Mem)  : Ct G yX6_ones (wY yX6_ones cX6_ones 3 (some .int)) rmX6_ones rI [.int a0] (f_X6_ones F a0 M) M := by
  refine Ct_of cX6_ones 3 (some .int) RX6 hG.2.2.2 (by decide) rfl rfl (Nat.le_of_ble_eq_true rfl) rfl (fun E C => ?_)
  unfold f_X6_ones
  refine ky_iconst C (0 : Int32) dX6_ones_0 (by decide) ?_
  refine ky_istore_n (lv' := [(1, .int (0 : Int32)), (0, .int a0)]) C dX6_ones_1 (by decide) rfl ?_
  refine ky_iconst C (0 : Int32) dX6_ones_2 (by decide) ?_
  refine ky_istore_n (lv' := [(2, .int (0 : Int32)), (1, .int (0 : Int32)), (0, .int a0)]) C dX6_ones_3 (by decide) rfl ?_
  exact ky_sub [2, 1, 0] rfl (lX6_ones_4 hG C F   F a0 (0 : Int32) (0 : Int32) M )
def rmX6_daysOf : Room := { frames := 1, cells := 0, slots := 0, locals := 22 }
theorem hd_X6_daysOf : yX6_daysOf.cls = RX6 ∧ yX6_daysOf.cls ≠ "java/lang/invoke/MethodHandle" ∧ yX6_daysOf.cls ≠ "java/lang/invoke/VarHandle" ∧ (parseMethodDescriptor yX6_daysOf.desc).map (fun d => d.parameters.length) = some 1 := ⟨rfl, by decide, by decide, by decide +kernel⟩
def LX6_daysOf_47 (F : Nat)  : Nat → Int32 → Int32 → Int32 → Int32 → Mem → Option (Int32 × Mem)
  | 0, _, _, _, _, _ => none
  | n + 1, xv1, xv2, xv3, xv4, M => if xv2 ≤ xv4 then (some (xv3, M)) else (gi ((6 : Int32) * xv1) 24 (bd (f_X6_aDay F (M.1 4 ((6 : Int32) * xv1).toNatClampNeg) M) (fun r10 M11 => nm (xv4 + r10) (fun x12 => nm (xv3 + (1 : Int32)) (fun x13 => LX6_daysOf_47 F n xv1 xv2 x13 x12 M11)))))
theorem LX6_daysOf_47_s (F : Nat)  (n : Nat) (xv1 : Int32) (xv2 : Int32) (xv3 : Int32) (xv4 : Int32) (M : Mem) : LX6_daysOf_47 F (n + 1) xv1 xv2 xv3 xv4 M = (if xv2 ≤ xv4 then (some (xv3, M)) else (gi ((6 : Int32) * xv1) 24 (bd (f_X6_aDay F (M.1 4 ((6 : Int32) * xv1).toNatClampNeg) M) (fun r10 M11 => nm (xv4 + r10) (fun x12 => nm (xv3 + (1 : Int32)) (fun x13 => LX6_daysOf_47 F n xv1 xv2 x13 x12 M11)))))) := rfl
set_option maxRecDepth 100000 in
set_option maxHeartbeats 4000000 in
theorem lX6_daysOf_47 {G : KyG} {cy : ClassId} (hG : IsR G cy) {E : KyE} (C : Cx G E cX6_daysOf 5 RX6 (wY yX6_daysOf cX6_daysOf 5 (some .int)) (some .int) rmX6_daysOf) (F : Nat)   : ∀ (n : Nat) (xv1 : Int32) (xv2 : Int32) (xv3 : Int32) (xv4 : Int32) (M : Mem) , Wo G E 5 rI (LX6_daysOf_47 F n xv1 xv2 xv3 xv4 M) M 47 [(0, .ref (gA G 0)), (1, .int xv1), (2, .int xv2), (3, .int xv3), (4, .int xv4)] [] := by
  intro n
  induction n with
  | zero => intro xv1 xv2 xv3 xv4 M ; exact ky_none
  | succ n ih =>
    intro xv1 xv2 xv3 xv4 M 
    rw [LX6_daysOf_47_s]
    refine ky_iload C dX6_daysOf_47 4 rfl ?_
    refine ky_iload_n C dX6_daysOf_49 2 rfl ?_
    refine ky_icmp_ge C 76 dX6_daysOf_50 (by decide) ?_ ?_
    · refine ky_iload_n C dX6_daysOf_76 3 rfl ?_
      exact ky_iret C dX6_daysOf_77
    · refine ky_iload C dX6_daysOf_53 4 rfl ?_
      refine ky_aload_n C dX6_daysOf_55 0 rfl ?_
      refine ky_get C (ltR hG) (ceR hG) rfl inWX6 9 (by decide) (wY_in tw_3_79) rfl rfl dX6_daysOf_56 ?_
      refine ky_bipush C (6 : Int32) dX6_daysOf_59 (by decide) ?_
      refine ky_iload_n C dX6_daysOf_61 1 rfl ?_
      refine ky_imul C dX6_daysOf_62 ?_
      refine ky_iald C (ltA hG ar4) (ceA4 hG) (tR0 hG) dX6_daysOf_63 (fun hx9 => ?_)
      refine ky_callSi C (c_X6_aDay hG F (M.1 4 ((6 : Int32) * xv1).toNatClampNeg) M ) (wY_goodS tw_3_207 tw_3_208 tw_1_7 tw_3_209) hd_X6_aDay ⟨rfl, rfl, by decide, by decide⟩ rfl rfl (Nat.le_of_ble_eq_true rfl) dX6_daysOf_64 (fun r10 M11 => ?_)
      refine ky_iadd C dX6_daysOf_67 ?_
      refine ky_nmi (fun x12 => ?_)
      refine ky_istore (lv' := [(4, .int x12), (0, .ref (gA G 0)), (1, .int xv1), (2, .int xv2), (3, .int xv3)]) C dX6_daysOf_68 (by decide) rfl ?_
      refine ky_iinc (lv' := fun x13 => [(3, .int x13), (4, .int x12), (0, .ref (gA G 0)), (1, .int xv1), (2, .int xv2)]) C dX6_daysOf_70 4 rfl (d1 := (1 : Int32)) rfl (by decide) (fun _ => rfl) (fun x13 => ?_)
      refine ky_goto C 47 dX6_daysOf_73 (by decide) ?_
      exact ky_sub [2, 3, 4, 0, 1] rfl (ih xv1 xv2 x13 x12 M11 )
def f_X6_daysOf (F : Nat) (a1 : Int32) (M : Mem) : Option (Int32 × Mem) := bd (f_X6_needsOf F a1 M) (fun r1 M2 => if r1 = 0 then (if r1 = 0 then (some ((0 : Int32), M2)) else (some ((mI 1), M2))) else (bd (f_X6_leftOf F a1 M2) (fun r3 M4 => bd (f_X6_ones F r3 M4) (fun r5 M6 => if r1 ≤ r5 then (gi (((6 : Int32) * a1) + (4 : Int32)) 24 (nm (M6.1 4 (((6 : Int32) * a1) + (4 : Int32)).toNatClampNeg) (fun x8 => LX6_daysOf_47 F  F a1 r1 (1 : Int32) x8 M6))) else (if r1 = 0 then (some ((0 : Int32), M6)) else (some ((mI 1), M6)))))))
set_option maxRecDepth 100000 in
set_option maxHeartbeats 4000000 in
theorem c_X6_daysOf {G : KyG} {cy : ClassId} (hG : IsR G cy) (F : Nat)  (a1 : Int32) (M : Mem)  : Ct G yX6_daysOf (wY yX6_daysOf cX6_daysOf 5 (some .int)) rmX6_daysOf rI [.ref (gA G 0), .int a1] (f_X6_daysOf F a1 M) M := by
  refine Ct_of cX6_daysOf 5 (some .int) RX6 hG.2.2.2 (by decide) rfl rfl (Nat.le_of_ble_eq_true rfl) rfl (fun E C => ?_)
  unfold f_X6_daysOf
  refine ky_aload_n C dX6_daysOf_0 0 rfl ?_
  refine ky_iload_n C dX6_daysOf_1 1 rfl ?_
  refine ky_callVi C (c_X6_needsOf hG F a1 M ) (ltR hG) (ceR hG) rfl (wY_goodV tw_3_230 tw_3_232 tw_p17 tw_1_7 tw_3_233) hd_X6_needsOf ⟨rfl, rfl, by decide, by decide⟩ rfl rfl (Nat.le_of_ble_eq_true rfl) dX6_daysOf_2 (fun r1 M2 => ?_)
  refine ky_istore_n (lv' := [(2, .int r1), (0, .ref (gA G 0)), (1, .int a1)]) C dX6_daysOf_5 (by decide) rfl ?_
  refine ky_iload_n C dX6_daysOf_6 0 rfl ?_
  refine ky_if_eq C 22 dX6_daysOf_7 (by decide) ?_ ?_
  · refine ky_iload_n C dX6_daysOf_22 0 rfl ?_
    refine ky_if_ne C 30 dX6_daysOf_23 (by decide) ?_ ?_
    · refine ky_iconst C (0 : Int32) dX6_daysOf_26 (by decide) ?_
      refine ky_goto C 31 dX6_daysOf_27 (by decide) ?_
      exact ky_iret C dX6_daysOf_31
    · refine ky_iconst C (mI 1) dX6_daysOf_30 (by decide) ?_
      exact ky_iret C dX6_daysOf_31
  · refine ky_aload_n C dX6_daysOf_10 1 rfl ?_
    refine ky_iload_n C dX6_daysOf_11 2 rfl ?_
    refine ky_callVi C (c_X6_leftOf hG F a1 M2 ) (ltR hG) (ceR hG) rfl (wY_goodV tw_3_222 tw_3_224 tw_p15 tw_1_7 tw_3_225) hd_X6_leftOf ⟨rfl, rfl, by decide, by decide⟩ rfl rfl (Nat.le_of_ble_eq_true rfl) dX6_daysOf_12 (fun r3 M4 => ?_)
    refine ky_callSi C (c_X6_ones hG F r3 M4 ) (wY_goodS tw_3_185 tw_3_186 tw_1_7 tw_3_187) hd_X6_ones ⟨rfl, rfl, by decide, by decide⟩ rfl rfl (Nat.le_of_ble_eq_true rfl) dX6_daysOf_15 (fun r5 M6 => ?_)
    refine ky_iload_n C dX6_daysOf_18 0 rfl ?_
    refine ky_icmp_ge C 32 dX6_daysOf_19 (by decide) ?_ ?_
    · refine ky_iconst C (1 : Int32) dX6_daysOf_32 (by decide) ?_
      refine ky_istore_n (lv' := [(3, .int (1 : Int32)), (2, .int r1), (0, .ref (gA G 0)), (1, .int a1)]) C dX6_daysOf_33 (by decide) rfl ?_
      refine ky_aload_n C dX6_daysOf_34 2 rfl ?_
      refine ky_get C (ltR hG) (ceR hG) rfl inWX6 9 (by decide) (wY_in tw_3_79) rfl rfl dX6_daysOf_35 ?_
      refine ky_bipush C (6 : Int32) dX6_daysOf_38 (by decide) ?_
      refine ky_iload_n C dX6_daysOf_40 3 rfl ?_
      refine ky_imul C dX6_daysOf_41 ?_
      refine ky_iconst C (4 : Int32) dX6_daysOf_42 (by decide) ?_
      refine ky_iadd C dX6_daysOf_43 ?_
      refine ky_iald C (ltA hG ar4) (ceA4 hG) (tR0 hG) dX6_daysOf_44 (fun hx7 => ?_)
      refine ky_nmi (fun x8 => ?_)
      refine ky_istore (lv' := [(4, .int x8), (3, .int (1 : Int32)), (2, .int r1), (0, .ref (gA G 0)), (1, .int a1)]) C dX6_daysOf_45 (by decide) rfl ?_
      exact ky_sub [3, 4, 2, 1, 0] rfl (lX6_daysOf_47 hG C F   F a1 r1 (1 : Int32) x8 M6 )
    · refine ky_iload_n C dX6_daysOf_22 0 rfl ?_
      refine ky_if_ne C 30 dX6_daysOf_23 (by decide) ?_ ?_
      · refine ky_iconst C (0 : Int32) dX6_daysOf_26 (by decide) ?_
        refine ky_goto C 31 dX6_daysOf_27 (by decide) ?_
        exact ky_iret C dX6_daysOf_31
      · refine ky_iconst C (mI 1) dX6_daysOf_30 (by decide) ?_
        exact ky_iret C dX6_daysOf_31
def rmX6_findOf : Room := { frames := 1, cells := 0, slots := 0, locals := 22 }
theorem hd_X6_findOf : yX6_findOf.cls = RX6 ∧ yX6_findOf.cls ≠ "java/lang/invoke/MethodHandle" ∧ yX6_findOf.cls ≠ "java/lang/invoke/VarHandle" ∧ (parseMethodDescriptor yX6_findOf.desc).map (fun d => d.parameters.length) = some 1 := ⟨rfl, by decide, by decide, by decide +kernel⟩
def f_X6_findOf (F : Nat) (a1 : Int32) (M : Mem) : Option (Int32 × Mem) := gi (((6 : Int32) * a1) + (1 : Int32)) 24 (nm (M.1 4 (((6 : Int32) * a1) + (1 : Int32)).toNatClampNeg) (fun x2 => bd (f_X6_needsOf F a1 M) (fun r3 M4 => bd (f_X6_leftOf F a1 M4) (fun r5 M6 => bd (f_X6_ones F r5 M6) (fun r7 M8 => nm (r3 - r7) (fun x9 => gi x2 3 (gi x2 3 (gi (((6 : Int32) * a1) + (3 : Int32)) 24 (bd (f_X6_ones F (((M8.1 2 x2.toNatClampNeg) &&& ((M8.1 3 x2.toNatClampNeg) ^^^ (mI 1))) &&& ((M8.1 4 (((6 : Int32) * a1) + (3 : Int32)).toNatClampNeg) ^^^ (mI 1))) M8) (fun r13 M14 => if 0 < x9 then (if x9 ≤ r13 then (some (x9, M14)) else (some ((mI 1), M14))) else (some ((0 : Int32), M14))))))))))))
set_option maxRecDepth 100000 in
set_option maxHeartbeats 4000000 in
theorem c_X6_findOf {G : KyG} {cy : ClassId} (hG : IsR G cy) (F : Nat)  (a1 : Int32) (M : Mem)  : Ct G yX6_findOf (wY yX6_findOf cX6_findOf 5 (some .int)) rmX6_findOf rI [.ref (gA G 0), .int a1] (f_X6_findOf F a1 M) M := by
  refine Ct_of cX6_findOf 5 (some .int) RX6 hG.2.2.2 (by decide) rfl rfl (Nat.le_of_ble_eq_true rfl) rfl (fun E C => ?_)
  unfold f_X6_findOf
  refine ky_aload_n C dX6_findOf_0 0 rfl ?_
  refine ky_get C (ltR hG) (ceR hG) rfl inWX6 9 (by decide) (wY_in tw_3_79) rfl rfl dX6_findOf_1 ?_
  refine ky_bipush C (6 : Int32) dX6_findOf_4 (by decide) ?_
  refine ky_iload_n C dX6_findOf_6 1 rfl ?_
  refine ky_imul C dX6_findOf_7 ?_
  refine ky_iconst C (1 : Int32) dX6_findOf_8 (by decide) ?_
  refine ky_iadd C dX6_findOf_9 ?_
  refine ky_iald C (ltA hG ar4) (ceA4 hG) (tR0 hG) dX6_findOf_10 (fun hx1 => ?_)
  refine ky_nmi (fun x2 => ?_)
  refine ky_istore_n (lv' := [(2, .int x2), (0, .ref (gA G 0)), (1, .int a1)]) C dX6_findOf_11 (by decide) rfl ?_
  refine ky_aload_n C dX6_findOf_12 1 rfl ?_
  refine ky_iload_n C dX6_findOf_13 2 rfl ?_
  refine ky_callVi C (c_X6_needsOf hG F a1 M ) (ltR hG) (ceR hG) rfl (wY_goodV tw_3_230 tw_3_232 tw_p17 tw_1_7 tw_3_233) hd_X6_needsOf ⟨rfl, rfl, by decide, by decide⟩ rfl rfl (Nat.le_of_ble_eq_true rfl) dX6_findOf_14 (fun r3 M4 => ?_)
  refine ky_aload_n C dX6_findOf_17 1 rfl ?_
  refine ky_iload_n C dX6_findOf_18 2 rfl ?_
  refine ky_callVi C (c_X6_leftOf hG F a1 M4 ) (ltR hG) (ceR hG) rfl (wY_goodV tw_3_222 tw_3_224 tw_p15 tw_1_7 tw_3_225) hd_X6_leftOf ⟨rfl, rfl, by decide, by decide⟩ rfl rfl (Nat.le_of_ble_eq_true rfl) dX6_findOf_19 (fun r5 M6 => ?_)
  refine ky_callSi C (c_X6_ones hG F r5 M6 ) (wY_goodS tw_3_185 tw_3_186 tw_1_7 tw_3_187) hd_X6_ones ⟨rfl, rfl, by decide, by decide⟩ rfl rfl (Nat.le_of_ble_eq_true rfl) dX6_findOf_22 (fun r7 M8 => ?_)
  refine ky_isub C dX6_findOf_25 ?_
  refine ky_nmi (fun x9 => ?_)
  refine ky_istore_n (lv' := [(3, .int x9), (2, .int x2), (0, .ref (gA G 0)), (1, .int a1)]) C dX6_findOf_26 (by decide) rfl ?_
  refine ky_aload_n C dX6_findOf_27 2 rfl ?_
  refine ky_get C (ltR hG) (ceR hG) rfl inWX6 6 (by decide) (wY_in tw_3_76) rfl rfl dX6_findOf_28 ?_
  refine ky_iload_n C dX6_findOf_31 1 rfl ?_
  refine ky_iald C (ltA hG ar2) (ceA2 hG) (tR0 hG) dX6_findOf_32 (fun hx10 => ?_)
  refine ky_aload_n C dX6_findOf_33 2 rfl ?_
  refine ky_get C (ltR hG) (ceR hG) rfl inWX6 7 (by decide) (wY_in tw_3_77) rfl rfl dX6_findOf_34 ?_
  refine ky_iload_n C dX6_findOf_37 1 rfl ?_
  refine ky_iald C (ltA hG ar3) (ceA3 hG) (tR0 hG) dX6_findOf_38 (fun hx11 => ?_)
  refine ky_iconst C (mI 1) dX6_findOf_39 (by decide) ?_
  refine ky_ixor C dX6_findOf_40 ?_
  refine ky_iand C dX6_findOf_41 ?_
  refine ky_aload_n C dX6_findOf_42 2 rfl ?_
  refine ky_get C (ltR hG) (ceR hG) rfl inWX6 9 (by decide) (wY_in tw_3_79) rfl rfl dX6_findOf_43 ?_
  refine ky_bipush C (6 : Int32) dX6_findOf_46 (by decide) ?_
  refine ky_iload_n C dX6_findOf_48 3 rfl ?_
  refine ky_imul C dX6_findOf_49 ?_
  refine ky_iconst C (3 : Int32) dX6_findOf_50 (by decide) ?_
  refine ky_iadd C dX6_findOf_51 ?_
  refine ky_iald C (ltA hG ar4) (ceA4 hG) (tR0 hG) dX6_findOf_52 (fun hx12 => ?_)
  refine ky_iconst C (mI 1) dX6_findOf_53 (by decide) ?_
  refine ky_ixor C dX6_findOf_54 ?_
  refine ky_iand C dX6_findOf_55 ?_
  refine ky_callSi C (c_X6_ones hG F (((M8.1 2 x2.toNatClampNeg) &&& ((M8.1 3 x2.toNatClampNeg) ^^^ (mI 1))) &&& ((M8.1 4 (((6 : Int32) * a1) + (3 : Int32)).toNatClampNeg) ^^^ (mI 1))) M8 ) (wY_goodS tw_3_185 tw_3_186 tw_1_7 tw_3_187) hd_X6_ones ⟨rfl, rfl, by decide, by decide⟩ rfl rfl (Nat.le_of_ble_eq_true rfl) dX6_findOf_56 (fun r13 M14 => ?_)
  refine ky_istore (lv' := [(4, .int r13), (3, .int x9), (2, .int x2), (0, .ref (gA G 0)), (1, .int a1)]) C dX6_findOf_59 (by decide) rfl ?_
  refine ky_iload_n C dX6_findOf_61 1 rfl ?_
  refine ky_if_gt C 69 dX6_findOf_62 (by decide) ?_ ?_
  · refine ky_iload_n C dX6_findOf_69 1 rfl ?_
    refine ky_iload C dX6_findOf_70 0 rfl ?_
    refine ky_icmp_le C 79 dX6_findOf_72 (by decide) ?_ ?_
    · refine ky_iload_n C dX6_findOf_79 1 rfl ?_
      exact ky_iret C dX6_findOf_80
    · refine ky_iconst C (mI 1) dX6_findOf_75 (by decide) ?_
      refine ky_goto C 80 dX6_findOf_76 (by decide) ?_
      exact ky_iret C dX6_findOf_80
  · refine ky_iconst C (0 : Int32) dX6_findOf_65 (by decide) ?_
    refine ky_goto C 80 dX6_findOf_66 (by decide) ?_
    exact ky_iret C dX6_findOf_80
def rmX6_tell : Room := { frames := 2, cells := 0, slots := 0, locals := 46 }
theorem hd_X6_tell : yX6_tell.cls = RX6 ∧ yX6_tell.cls ≠ "java/lang/invoke/MethodHandle" ∧ yX6_tell.cls ≠ "java/lang/invoke/VarHandle" ∧ (parseMethodDescriptor yX6_tell.desc).map (fun d => d.parameters.length) = some 2 := ⟨rfl, by decide, by decide, by decide +kernel⟩
def f_X6_tell (F : Nat) (a1 : Int32) (a2 : Int32) (M : Mem) : Option (Int32 × Mem) := (if a2 = (0 : Int32) then (gi (((6 : Int32) * a1) + a2) 24 (some (M.1 4 (((6 : Int32) * a1) + a2).toNatClampNeg, M))) else (if a2 = (1 : Int32) then (gi (((6 : Int32) * a1) + a2) 24 (some (M.1 4 (((6 : Int32) * a1) + a2).toNatClampNeg, M))) else (if a2 = (2 : Int32) then (gi (((6 : Int32) * a1) + a2) 24 (some (M.1 4 (((6 : Int32) * a1) + a2).toNatClampNeg, M))) else (if a2 = (3 : Int32) then (gi (((6 : Int32) * a1) + a2) 24 (some (M.1 4 (((6 : Int32) * a1) + a2).toNatClampNeg, M))) else (if a2 = (4 : Int32) then (bd (f_X6_leftOf F a1 M) (fun r14 M15 => some (r14, M15))) else (if a2 = (5 : Int32) then (gi ((((6 : Int32) * a1) + a2) - (1 : Int32)) 24 (some (M.1 4 ((((6 : Int32) * a1) + a2) - (1 : Int32)).toNatClampNeg, M))) else (if a2 = (6 : Int32) then (gi ((((6 : Int32) * a1) + a2) - (1 : Int32)) 24 (some (M.1 4 ((((6 : Int32) * a1) + a2) - (1 : Int32)).toNatClampNeg, M))) else (if a2 = (7 : Int32) then (bd (f_X6_daysOf F a1 M) (fun r18 M19 => some (r18, M19))) else (if a2 = (8 : Int32) then (bd (f_X6_findOf F a1 M) (fun r20 M21 => some (r20, M21))) else (some ((mI 102), M)))))))))))
set_option maxRecDepth 100000 in
set_option maxHeartbeats 4000000 in
theorem c_X6_tell {G : KyG} {cy : ClassId} (hG : IsR G cy) (F : Nat)  (a1 : Int32) (a2 : Int32) (M : Mem)  : Ct G yX6_tell (wY yX6_tell cX6_tell 3 (some .int)) rmX6_tell rI [.ref (gA G 0), .int a1, .int a2] (f_X6_tell F a1 a2 M) M := by
  refine Ct_of cX6_tell 3 (some .int) RX6 hG.2.2.2 (by decide) rfl rfl (Nat.le_of_ble_eq_true rfl) rfl (fun E C => ?_)
  unfold f_X6_tell
  refine ky_iload_n C dX6_tell_0 2 rfl ?_
  refine ky_swIn C (0 : Int32) 52 dX6_tell_1 (by decide) (by decide) rfl (by decide) ?_ (fun hs1 => ?_)
  · refine ky_aload_n C dX6_tell_52 0 rfl ?_
    refine ky_get C (ltR hG) (ceR hG) rfl inWX6 9 (by decide) (wY_in tw_3_79) rfl rfl dX6_tell_53 ?_
    refine ky_bipush C (6 : Int32) dX6_tell_56 (by decide) ?_
    refine ky_iload_n C dX6_tell_58 1 rfl ?_
    refine ky_imul C dX6_tell_59 ?_
    refine ky_iload_n C dX6_tell_60 2 rfl ?_
    refine ky_iadd C dX6_tell_61 ?_
    refine ky_iald C (ltA hG ar4) (ceA4 hG) (tR0 hG) dX6_tell_62 (fun hx10 => ?_)
    exact ky_iret C dX6_tell_63
  refine ky_swIn C (1 : Int32) 52 dX6_tell_1 (by decide) (by decide) rfl (by decide) ?_ (fun hs2 => ?_)
  · refine ky_aload_n C dX6_tell_52 0 rfl ?_
    refine ky_get C (ltR hG) (ceR hG) rfl inWX6 9 (by decide) (wY_in tw_3_79) rfl rfl dX6_tell_53 ?_
    refine ky_bipush C (6 : Int32) dX6_tell_56 (by decide) ?_
    refine ky_iload_n C dX6_tell_58 1 rfl ?_
    refine ky_imul C dX6_tell_59 ?_
    refine ky_iload_n C dX6_tell_60 2 rfl ?_
    refine ky_iadd C dX6_tell_61 ?_
    refine ky_iald C (ltA hG ar4) (ceA4 hG) (tR0 hG) dX6_tell_62 (fun hx11 => ?_)
    exact ky_iret C dX6_tell_63
  refine ky_swIn C (2 : Int32) 52 dX6_tell_1 (by decide) (by decide) rfl (by decide) ?_ (fun hs3 => ?_)
  · refine ky_aload_n C dX6_tell_52 0 rfl ?_
    refine ky_get C (ltR hG) (ceR hG) rfl inWX6 9 (by decide) (wY_in tw_3_79) rfl rfl dX6_tell_53 ?_
    refine ky_bipush C (6 : Int32) dX6_tell_56 (by decide) ?_
    refine ky_iload_n C dX6_tell_58 1 rfl ?_
    refine ky_imul C dX6_tell_59 ?_
    refine ky_iload_n C dX6_tell_60 2 rfl ?_
    refine ky_iadd C dX6_tell_61 ?_
    refine ky_iald C (ltA hG ar4) (ceA4 hG) (tR0 hG) dX6_tell_62 (fun hx12 => ?_)
    exact ky_iret C dX6_tell_63
  refine ky_swIn C (3 : Int32) 52 dX6_tell_1 (by decide) (by decide) rfl (by decide) ?_ (fun hs4 => ?_)
  · refine ky_aload_n C dX6_tell_52 0 rfl ?_
    refine ky_get C (ltR hG) (ceR hG) rfl inWX6 9 (by decide) (wY_in tw_3_79) rfl rfl dX6_tell_53 ?_
    refine ky_bipush C (6 : Int32) dX6_tell_56 (by decide) ?_
    refine ky_iload_n C dX6_tell_58 1 rfl ?_
    refine ky_imul C dX6_tell_59 ?_
    refine ky_iload_n C dX6_tell_60 2 rfl ?_
    refine ky_iadd C dX6_tell_61 ?_
    refine ky_iald C (ltA hG ar4) (ceA4 hG) (tR0 hG) dX6_tell_62 (fun hx13 => ?_)
    exact ky_iret C dX6_tell_63
  refine ky_swIn C (4 : Int32) 64 dX6_tell_1 (by decide) (by decide) rfl (by decide) ?_ (fun hs5 => ?_)
  · refine ky_aload_n C dX6_tell_64 0 rfl ?_
    refine ky_iload_n C dX6_tell_65 1 rfl ?_
    refine ky_callVi C (c_X6_leftOf hG F a1 M ) (ltR hG) (ceR hG) rfl (wY_goodV tw_3_222 tw_3_224 tw_p15 tw_1_7 tw_3_225) hd_X6_leftOf ⟨rfl, rfl, by decide, by decide⟩ rfl rfl (Nat.le_of_ble_eq_true rfl) dX6_tell_66 (fun r14 M15 => ?_)
    exact ky_iret C dX6_tell_69
  refine ky_swIn C (5 : Int32) 70 dX6_tell_1 (by decide) (by decide) rfl (by decide) ?_ (fun hs6 => ?_)
  · refine ky_aload_n C dX6_tell_70 0 rfl ?_
    refine ky_get C (ltR hG) (ceR hG) rfl inWX6 9 (by decide) (wY_in tw_3_79) rfl rfl dX6_tell_71 ?_
    refine ky_bipush C (6 : Int32) dX6_tell_74 (by decide) ?_
    refine ky_iload_n C dX6_tell_76 1 rfl ?_
    refine ky_imul C dX6_tell_77 ?_
    refine ky_iload_n C dX6_tell_78 2 rfl ?_
    refine ky_iadd C dX6_tell_79 ?_
    refine ky_iconst C (1 : Int32) dX6_tell_80 (by decide) ?_
    refine ky_isub C dX6_tell_81 ?_
    refine ky_iald C (ltA hG ar4) (ceA4 hG) (tR0 hG) dX6_tell_82 (fun hx16 => ?_)
    exact ky_iret C dX6_tell_83
  refine ky_swIn C (6 : Int32) 70 dX6_tell_1 (by decide) (by decide) rfl (by decide) ?_ (fun hs7 => ?_)
  · refine ky_aload_n C dX6_tell_70 0 rfl ?_
    refine ky_get C (ltR hG) (ceR hG) rfl inWX6 9 (by decide) (wY_in tw_3_79) rfl rfl dX6_tell_71 ?_
    refine ky_bipush C (6 : Int32) dX6_tell_74 (by decide) ?_
    refine ky_iload_n C dX6_tell_76 1 rfl ?_
    refine ky_imul C dX6_tell_77 ?_
    refine ky_iload_n C dX6_tell_78 2 rfl ?_
    refine ky_iadd C dX6_tell_79 ?_
    refine ky_iconst C (1 : Int32) dX6_tell_80 (by decide) ?_
    refine ky_isub C dX6_tell_81 ?_
    refine ky_iald C (ltA hG ar4) (ceA4 hG) (tR0 hG) dX6_tell_82 (fun hx17 => ?_)
    exact ky_iret C dX6_tell_83
  refine ky_swIn C (7 : Int32) 84 dX6_tell_1 (by decide) (by decide) rfl (by decide) ?_ (fun hs8 => ?_)
  · refine ky_aload_n C dX6_tell_84 0 rfl ?_
    refine ky_iload_n C dX6_tell_85 1 rfl ?_
    refine ky_callVi C (c_X6_daysOf hG F a1 M ) (ltR hG) (ceR hG) rfl (wY_goodV tw_3_226 tw_3_228 tw_p16 tw_1_7 tw_3_229) hd_X6_daysOf ⟨rfl, rfl, by decide, by decide⟩ rfl rfl (Nat.le_of_ble_eq_true rfl) dX6_tell_86 (fun r18 M19 => ?_)
    exact ky_iret C dX6_tell_89
  refine ky_swIn C (8 : Int32) 90 dX6_tell_1 (by decide) (by decide) rfl (by decide) ?_ (fun hs9 => ?_)
  · refine ky_aload_n C dX6_tell_90 0 rfl ?_
    refine ky_iload_n C dX6_tell_91 1 rfl ?_
    refine ky_callVi C (c_X6_findOf hG F a1 M ) (ltR hG) (ceR hG) rfl (wY_goodV tw_3_234 tw_3_236 tw_p18 tw_1_7 tw_3_237) hd_X6_findOf ⟨rfl, rfl, by decide, by decide⟩ rfl rfl (Nat.le_of_ble_eq_true rfl) dX6_tell_92 (fun r20 M21 => ?_)
    exact ky_iret C dX6_tell_95
  refine ky_swOut C 96 dX6_tell_1 (sw_all 9 8 (by decide) (by decide) (fun j hj => by match j, hj with | 0, _ => exact hs1 | 1, _ => exact hs2 | 2, _ => exact hs3 | 3, _ => exact hs4 | 4, _ => exact hs5 | 5, _ => exact hs6 | 6, _ => exact hs7 | 7, _ => exact hs8 | 8, _ => exact hs9 | j + 9, hj => exact absurd hj (by omega))) (by decide) ?_
  refine ky_bipush C (mI 102) dX6_tell_96 (by decide) ?_
  exact ky_iret C dX6_tell_98
def rmX6_about : Room := { frames := 3, cells := 0, slots := 0, locals := 68 }
theorem hd_X6_about : yX6_about.cls = RX6 ∧ yX6_about.cls ≠ "java/lang/invoke/MethodHandle" ∧ yX6_about.cls ≠ "java/lang/invoke/VarHandle" ∧ (parseMethodDescriptor yX6_about.desc).map (fun d => d.parameters.length) = some 2 := ⟨rfl, by decide, by decide, by decide +kernel⟩
def f_X6_about (F : Nat) (a1 : Int32) (a2 : Int32) (M : Mem) : Option (Int32 × Mem) := bd (f_X6_isConvict F a1 M) (fun r1 M2 => if r1 = 0 then (some ((mI 101), M2)) else (bd (f_X6_tell F a1 a2 M2) (fun r3 M4 => some (r3, M4))))
set_option maxRecDepth 100000 in
set_option maxHeartbeats 4000000 in
theorem c_X6_about {G : KyG} {cy : ClassId} (hG : IsR G cy) (F : Nat)  (a1 : Int32) (a2 : Int32) (M : Mem)  : Ct G yX6_about (wY yX6_about cX6_about 3 (some .int)) rmX6_about rI [.ref (gA G 0), .int a1, .int a2] (f_X6_about F a1 a2 M) M := by
  refine Ct_of cX6_about 3 (some .int) RX6 hG.2.2.2 (by decide) rfl rfl (Nat.le_of_ble_eq_true rfl) rfl (fun E C => ?_)
  unfold f_X6_about
  refine ky_aload_n C dX6_about_0 0 rfl ?_
  refine ky_iload_n C dX6_about_1 1 rfl ?_
  refine ky_callVi C (c_X6_isConvict hG F a1 M ) (ltR hG) (ceR hG) rfl (wY_goodV tw_3_214 tw_3_216 tw_p13 tw_1_7 tw_3_217) hd_X6_isConvict ⟨rfl, rfl, by decide, by decide⟩ rfl rfl (Nat.le_of_ble_eq_true rfl) dX6_about_2 (fun r1 M2 => ?_)
  refine ky_if_eq C 17 dX6_about_5 (by decide) ?_ ?_
  · refine ky_bipush C (mI 101) dX6_about_17 (by decide) ?_
    exact ky_iret C dX6_about_19
  · refine ky_aload_n C dX6_about_8 0 rfl ?_
    refine ky_iload_n C dX6_about_9 1 rfl ?_
    refine ky_iload_n C dX6_about_10 2 rfl ?_
    refine ky_callVi C (c_X6_tell hG F a1 a2 M2 ) (ltR hG) (ceR hG) rfl (wY_goodV tw_3_218 tw_3_220 tw_p14 tw_1_7 tw_3_221) hd_X6_tell ⟨rfl, rfl, by decide, by decide⟩ rfl rfl (Nat.le_of_ble_eq_true rfl) dX6_about_11 (fun r3 M4 => ?_)
    refine ky_goto C 19 dX6_about_14 (by decide) ?_
    exact ky_iret C dX6_about_19
def rmX6_as : Room := { frames := 2, cells := 0, slots := 0, locals := 46 }
theorem hd_X6_as : yX6_as.cls = RX6 ∧ yX6_as.cls ≠ "java/lang/invoke/MethodHandle" ∧ yX6_as.cls ≠ "java/lang/invoke/VarHandle" ∧ (parseMethodDescriptor yX6_as.desc).map (fun d => d.parameters.length) = some 2 := ⟨rfl, by decide, by decide, by decide +kernel⟩
def JX6_as_55 (F : Nat) (xv1 : Int32) (M : Mem) : Option (Int32 × Mem) := if (1 : Int32) = 0 then (some ((mI 1), M)) else (some (xv1, M))
set_option maxRecDepth 100000 in
set_option maxHeartbeats 4000000 in
theorem jX6_as_55 {G : KyG} {cy : ClassId} (hG : IsR G cy) {E : KyE} (C : Cx G E cX6_as 5 RX6 (wY yX6_as cX6_as 5 (some .int)) (some .int) rmX6_as) (F : Nat) (xv1 : Int32) (M : Mem)  : Wo G E 5 rI (JX6_as_55 F xv1 M) M 55 [(1, .int xv1)] [] := by
  unfold JX6_as_55
  refine ky_iconst C (1 : Int32) dX6_as_55 (by decide) ?_
  refine ky_goto C 60 dX6_as_56 (by decide) ?_
  refine ky_istore (lv' := [(4, .int (1 : Int32)), (1, .int xv1)]) C dX6_as_60 (by decide) rfl ?_
  refine ky_iload C dX6_as_62 0 rfl ?_
  refine ky_if_eq C 71 dX6_as_64 (by decide) ?_ ?_
  · refine ky_iconst C (mI 1) dX6_as_71 (by decide) ?_
    exact ky_iret C dX6_as_72
  · refine ky_iload_n C dX6_as_67 1 rfl ?_
    refine ky_goto C 72 dX6_as_68 (by decide) ?_
    exact ky_iret C dX6_as_72
def f_X6_as (F : Nat) (a1 : Int32) (a2 : Int32) (M : Mem) : Option (Int32 × Mem) := bd (f_X6_isConvict F a1 M) (fun r1 M2 => if r1 = 0 then (some ((mI 101), M2)) else (bd (f_X6_in F a2.toInt64 (0 : Int64) (4 : Int64) M2) (fun r3 M4 => if r3 = 0 then (some ((mI 102), M4)) else (gi ((6 : Int32) * a1) 24 (nm (M4.1 4 ((6 : Int32) * a1).toNatClampNeg) (fun x6 => if a2 = 0 then (JX6_as_55 F a1 M4) else (if a2 = x6 then (JX6_as_55 F a1 M4) else (if a2 = (1 : Int32) then (if x6 = (4 : Int32) then (JX6_as_55 F a1 M4) else (if (0 : Int32) = 0 then (some ((mI 1), M4)) else (some (a1, M4)))) else (if (0 : Int32) = 0 then (some ((mI 1), M4)) else (some (a1, M4)))))))))))
set_option maxRecDepth 100000 in
set_option maxHeartbeats 4000000 in
theorem c_X6_as {G : KyG} {cy : ClassId} (hG : IsR G cy) (F : Nat)  (a1 : Int32) (a2 : Int32) (M : Mem)  : Ct G yX6_as (wY yX6_as cX6_as 5 (some .int)) rmX6_as rI [.ref (gA G 0), .int a1, .int a2] (f_X6_as F a1 a2 M) M := by
  refine Ct_of cX6_as 5 (some .int) RX6 hG.2.2.2 (by decide) rfl rfl (Nat.le_of_ble_eq_true rfl) rfl (fun E C => ?_)
  unfold f_X6_as
  refine ky_aload_n C dX6_as_0 0 rfl ?_
  refine ky_iload_n C dX6_as_1 1 rfl ?_
  refine ky_callVi C (c_X6_isConvict hG F a1 M ) (ltR hG) (ceR hG) rfl (wY_goodV tw_3_214 tw_3_216 tw_p13 tw_1_7 tw_3_217) hd_X6_isConvict ⟨rfl, rfl, by decide, by decide⟩ rfl rfl (Nat.le_of_ble_eq_true rfl) dX6_as_2 (fun r1 M2 => ?_)
  refine ky_if_ne C 11 dX6_as_5 (by decide) ?_ ?_
  · refine ky_bipush C (mI 101) dX6_as_8 (by decide) ?_
    exact ky_iret C dX6_as_10
  · refine ky_iload_n C dX6_as_11 2 rfl ?_
    refine ky_i2l C dX6_as_12 ?_
    refine ky_lconst C (0 : Int64) dX6_as_13 (by decide) ?_
    refine ky_ldc2 C (4 : Int64) (wY_in tw_3_205) dX6_as_14 ?_
    refine ky_callSi C (c_X6_in hG F a2.toInt64 (0 : Int64) (4 : Int64) M2 ) (wY_goodS tw_3_157 tw_3_158 tw_1_7 tw_3_159) hd_X6_in ⟨rfl, rfl, by decide, by decide⟩ rfl rfl (Nat.le_of_ble_eq_true rfl) dX6_as_17 (fun r3 M4 => ?_)
    refine ky_if_ne C 26 dX6_as_20 (by decide) ?_ ?_
    · refine ky_bipush C (mI 102) dX6_as_23 (by decide) ?_
      exact ky_iret C dX6_as_25
    · refine ky_aload_n C dX6_as_26 0 rfl ?_
      refine ky_get C (ltR hG) (ceR hG) rfl inWX6 9 (by decide) (wY_in tw_3_79) rfl rfl dX6_as_27 ?_
      refine ky_bipush C (6 : Int32) dX6_as_30 (by decide) ?_
      refine ky_iload_n C dX6_as_32 1 rfl ?_
      refine ky_imul C dX6_as_33 ?_
      refine ky_iald C (ltA hG ar4) (ceA4 hG) (tR0 hG) dX6_as_34 (fun hx5 => ?_)
      refine ky_nmi (fun x6 => ?_)
      refine ky_istore_n (lv' := [(3, .int x6), (0, .ref (gA G 0)), (1, .int a1), (2, .int a2)]) C dX6_as_35 (by decide) rfl ?_
      refine ky_iload_n C dX6_as_36 3 rfl ?_
      refine ky_if_eq C 55 dX6_as_37 (by decide) ?_ ?_
      · exact ky_sub [2] rfl (jX6_as_55 hG C F a1 M4 )
      · refine ky_iload_n C dX6_as_40 3 rfl ?_
        refine ky_iload_n C dX6_as_41 0 rfl ?_
        refine ky_icmp_eq C 55 dX6_as_42 (by decide) ?_ ?_
        · exact ky_sub [2] rfl (jX6_as_55 hG C F a1 M4 )
        · refine ky_iload_n C dX6_as_45 3 rfl ?_
          refine ky_iconst C (1 : Int32) dX6_as_46 (by decide) ?_
          refine ky_icmp_ne C 59 dX6_as_47 (by decide) ?_ ?_
          · refine ky_iload_n C dX6_as_50 0 rfl ?_
            refine ky_iconst C (4 : Int32) dX6_as_51 (by decide) ?_
            refine ky_icmp_ne C 59 dX6_as_52 (by decide) ?_ ?_
            · exact ky_sub [2] rfl (jX6_as_55 hG C F a1 M4 )
            · refine ky_iconst C (0 : Int32) dX6_as_59 (by decide) ?_
              refine ky_istore (lv' := [(4, .int (0 : Int32)), (3, .int x6), (0, .ref (gA G 0)), (1, .int a1), (2, .int a2)]) C dX6_as_60 (by decide) rfl ?_
              refine ky_iload C dX6_as_62 0 rfl ?_
              refine ky_if_eq C 71 dX6_as_64 (by decide) ?_ ?_
              · refine ky_iconst C (mI 1) dX6_as_71 (by decide) ?_
                exact ky_iret C dX6_as_72
              · refine ky_iload_n C dX6_as_67 3 rfl ?_
                refine ky_goto C 72 dX6_as_68 (by decide) ?_
                exact ky_iret C dX6_as_72
          · refine ky_iconst C (0 : Int32) dX6_as_59 (by decide) ?_
            refine ky_istore (lv' := [(4, .int (0 : Int32)), (3, .int x6), (0, .ref (gA G 0)), (1, .int a1), (2, .int a2)]) C dX6_as_60 (by decide) rfl ?_
            refine ky_iload C dX6_as_62 0 rfl ?_
            refine ky_if_eq C 71 dX6_as_64 (by decide) ?_ ?_
            · refine ky_iconst C (mI 1) dX6_as_71 (by decide) ?_
              exact ky_iret C dX6_as_72
            · refine ky_iload_n C dX6_as_67 3 rfl ?_
              refine ky_goto C 72 dX6_as_68 (by decide) ?_
              exact ky_iret C dX6_as_72
def rmX6_isVictim : Room := { frames := 1, cells := 0, slots := 0, locals := 25 }
theorem hd_X6_isVictim : yX6_isVictim.cls = RX6 ∧ yX6_isVictim.cls ≠ "java/lang/invoke/MethodHandle" ∧ yX6_isVictim.cls ≠ "java/lang/invoke/VarHandle" ∧ (parseMethodDescriptor yX6_isVictim.desc).map (fun d => d.parameters.length) = some 1 := ⟨rfl, by decide, by decide, by decide +kernel⟩
def f_X6_isVictim (F : Nat) (a1 : Int32) (M : Mem) : Option (Int32 × Mem) := if (M.1 0 2) = 0 then (some ((0 : Int32), M)) else (bd (f_X6_in F a1.toInt64 (0 : Int64) (2 : Int64) M) (fun r1 M2 => if r1 = 0 then (some ((0 : Int32), M2)) else (some ((1 : Int32), M2))))
set_option maxRecDepth 100000 in
set_option maxHeartbeats 4000000 in
theorem c_X6_isVictim {G : KyG} {cy : ClassId} (hG : IsR G cy) (F : Nat)  (a1 : Int32) (M : Mem)  : Ct G yX6_isVictim (wY yX6_isVictim cX6_isVictim 2 (some .boolean)) rmX6_isVictim rI [.ref (gA G 0), .int a1] (f_X6_isVictim F a1 M) M := by
  refine Ct_of cX6_isVictim 2 (some .boolean) RX6 hG.2.2.2 (by decide) rfl rfl (Nat.le_of_ble_eq_true rfl) rfl (fun E C => ?_)
  unfold f_X6_isVictim
  refine ky_aload_n C dX6_isVictim_0 0 rfl ?_
  refine ky_get C (ltR hG) (ceR hG) rfl inWX6 2 (by decide) (wY_in tw_3_72) rfl rfl dX6_isVictim_1 ?_
  refine ky_if_eq C 23 dX6_isVictim_4 (by decide) ?_ ?_
  · refine ky_iconst C (0 : Int32) dX6_isVictim_23 (by decide) ?_
    exact ky_zret C (by decide) dX6_isVictim_24
  · refine ky_iload_n C dX6_isVictim_7 1 rfl ?_
    refine ky_i2l C dX6_isVictim_8 ?_
    refine ky_lconst C (0 : Int64) dX6_isVictim_9 (by decide) ?_
    refine ky_ldc2 C (2 : Int64) (wY_in tw_3_196) dX6_isVictim_10 ?_
    refine ky_callSi C (c_X6_in hG F a1.toInt64 (0 : Int64) (2 : Int64) M ) (wY_goodS tw_3_157 tw_3_158 tw_1_7 tw_3_159) hd_X6_in ⟨rfl, rfl, by decide, by decide⟩ rfl rfl (Nat.le_of_ble_eq_true rfl) dX6_isVictim_13 (fun r1 M2 => ?_)
    refine ky_if_eq C 23 dX6_isVictim_16 (by decide) ?_ ?_
    · refine ky_iconst C (0 : Int32) dX6_isVictim_23 (by decide) ?_
      exact ky_zret C (by decide) dX6_isVictim_24
    · refine ky_iconst C (1 : Int32) dX6_isVictim_19 (by decide) ?_
      refine ky_goto C 24 dX6_isVictim_20 (by decide) ?_
      exact ky_zret C (by decide) dX6_isVictim_24
def rmX6_isTried : Room := { frames := 0, cells := 0, slots := 0, locals := 0 }
theorem hd_X6_isTried : yX6_isTried.cls = RX6 ∧ yX6_isTried.cls ≠ "java/lang/invoke/MethodHandle" ∧ yX6_isTried.cls ≠ "java/lang/invoke/VarHandle" ∧ (parseMethodDescriptor yX6_isTried.desc).map (fun d => d.parameters.length) = some 2 := ⟨rfl, by decide, by decide, by decide +kernel⟩
def LX6_isTried_5 (F : Nat)  : Nat → Int32 → Int32 → Int32 → Int32 → Mem → Option (Int32 × Mem)
  | 0, _, _, _, _, _ => none
  | n + 1, xv1, xv2, xv3, xv4, M => if (M.1 0 13) ≤ xv4 then (gb xv3 (some (xv3, M))) else (if xv3 = 0 then (nm (xv4 + (1 : Int32)) (fun x1 => LX6_isTried_5 F n xv1 xv2 (0 : Int32) x1 M)) else (gi ((3 : Int32) * xv4) 24 (if (M.1 8 ((3 : Int32) * xv4).toNatClampNeg) = xv1 then (gi (((3 : Int32) * xv4) + (1 : Int32)) 24 (gi (((3 : Int32) * xv4) + (2 : Int32)) 24 (if ((xv2 >>> ((M.1 8 (((3 : Int32) * xv4) + (1 : Int32)).toNatClampNeg) &&& 31)) &&& (1 : Int32)) = (M.1 8 (((3 : Int32) * xv4) + (2 : Int32)).toNatClampNeg) then (nm (xv4 + (1 : Int32)) (fun x7 => LX6_isTried_5 F n xv1 xv2 (1 : Int32) x7 M)) else (nm (xv4 + (1 : Int32)) (fun x6 => LX6_isTried_5 F n xv1 xv2 (0 : Int32) x6 M))))) else (nm (xv4 + (1 : Int32)) (fun x3 => LX6_isTried_5 F n xv1 xv2 (1 : Int32) x3 M)))))
theorem LX6_isTried_5_s (F : Nat)  (n : Nat) (xv1 : Int32) (xv2 : Int32) (xv3 : Int32) (xv4 : Int32) (M : Mem) : LX6_isTried_5 F (n + 1) xv1 xv2 xv3 xv4 M = (if (M.1 0 13) ≤ xv4 then (gb xv3 (some (xv3, M))) else (if xv3 = 0 then (nm (xv4 + (1 : Int32)) (fun x1 => LX6_isTried_5 F n xv1 xv2 (0 : Int32) x1 M)) else (gi ((3 : Int32) * xv4) 24 (if (M.1 8 ((3 : Int32) * xv4).toNatClampNeg) = xv1 then (gi (((3 : Int32) * xv4) + (1 : Int32)) 24 (gi (((3 : Int32) * xv4) + (2 : Int32)) 24 (if ((xv2 >>> ((M.1 8 (((3 : Int32) * xv4) + (1 : Int32)).toNatClampNeg) &&& 31)) &&& (1 : Int32)) = (M.1 8 (((3 : Int32) * xv4) + (2 : Int32)).toNatClampNeg) then (nm (xv4 + (1 : Int32)) (fun x7 => LX6_isTried_5 F n xv1 xv2 (1 : Int32) x7 M)) else (nm (xv4 + (1 : Int32)) (fun x6 => LX6_isTried_5 F n xv1 xv2 (0 : Int32) x6 M))))) else (nm (xv4 + (1 : Int32)) (fun x3 => LX6_isTried_5 F n xv1 xv2 (1 : Int32) x3 M)))))) := rfl
set_option maxRecDepth 100000 in
set_option maxHeartbeats 4000000 in
theorem lX6_isTried_5 {G : KyG} {cy : ClassId} (hG : IsR G cy) {E : KyE} (C : Cx G E cX6_isTried 5 RX6 (wY yX6_isTried cX6_isTried 5 (some .boolean)) (some .boolean) rmX6_isTried) (F : Nat)   : ∀ (n : Nat) (xv1 : Int32) (xv2 : Int32) (xv3 : Int32) (xv4 : Int32) (M : Mem) , Wo G E 5 rI (LX6_isTried_5 F n xv1 xv2 xv3 xv4 M) M 5 [(0, .ref (gA G 0)), (1, .int xv1), (2, .int xv2), (3, .int xv3), (4, .int xv4)] [] := by
  intro n
  induction n with
  | zero => intro xv1 xv2 xv3 xv4 M ; exact ky_none
  | succ n ih =>
    intro xv1 xv2 xv3 xv4 M 
    rw [LX6_isTried_5_s]
    refine ky_iload C dX6_isTried_5 4 rfl ?_
    refine ky_aload_n C dX6_isTried_7 0 rfl ?_
    refine ky_get C (ltR hG) (ceR hG) rfl inWX6 13 (by decide) (wY_in tw_3_83) rfl rfl dX6_isTried_8 ?_
    refine ky_icmp_ge C 72 dX6_isTried_11 (by decide) ?_ ?_
    · refine ky_iload_n C dX6_isTried_72 3 rfl ?_
      exact ky_zretG C dX6_isTried_73
    · refine ky_iload_n C dX6_isTried_14 3 rfl ?_
      refine ky_if_eq C 64 dX6_isTried_15 (by decide) ?_ ?_
      · refine ky_iconst C (0 : Int32) dX6_isTried_64 (by decide) ?_
        refine ky_istore_n (lv' := [(3, .int (0 : Int32)), (0, .ref (gA G 0)), (1, .int xv1), (2, .int xv2), (4, .int xv4)]) C dX6_isTried_65 (by decide) rfl ?_
        refine ky_iinc (lv' := fun x1 => [(4, .int x1), (3, .int (0 : Int32)), (0, .ref (gA G 0)), (1, .int xv1), (2, .int xv2)]) C dX6_isTried_66 4 rfl (d1 := (1 : Int32)) rfl (by decide) (fun _ => rfl) (fun x1 => ?_)
        refine ky_goto C 5 dX6_isTried_69 (by decide) ?_
        exact ky_sub [2, 3, 4, 1, 0] rfl (ih xv1 xv2 (0 : Int32) x1 M )
      · refine ky_aload_n C dX6_isTried_18 0 rfl ?_
        refine ky_get C (ltR hG) (ceR hG) rfl inWX6 14 (by decide) (wY_in tw_3_84) rfl rfl dX6_isTried_19 ?_
        refine ky_iconst C (3 : Int32) dX6_isTried_22 (by decide) ?_
        refine ky_iload C dX6_isTried_23 4 rfl ?_
        refine ky_imul C dX6_isTried_25 ?_
        refine ky_iald C (ltA hG ar8) (ceA8 hG) (tR0 hG) dX6_isTried_26 (fun hx2 => ?_)
        refine ky_iload_n C dX6_isTried_27 1 rfl ?_
        refine ky_icmp_ne C 60 dX6_isTried_28 (by decide) ?_ ?_
        · refine ky_iload_n C dX6_isTried_31 2 rfl ?_
          refine ky_aload_n C dX6_isTried_32 0 rfl ?_
          refine ky_get C (ltR hG) (ceR hG) rfl inWX6 14 (by decide) (wY_in tw_3_84) rfl rfl dX6_isTried_33 ?_
          refine ky_iconst C (3 : Int32) dX6_isTried_36 (by decide) ?_
          refine ky_iload C dX6_isTried_37 4 rfl ?_
          refine ky_imul C dX6_isTried_39 ?_
          refine ky_iconst C (1 : Int32) dX6_isTried_40 (by decide) ?_
          refine ky_iadd C dX6_isTried_41 ?_
          refine ky_iald C (ltA hG ar8) (ceA8 hG) (tR0 hG) dX6_isTried_42 (fun hx4 => ?_)
          refine ky_ishr C dX6_isTried_43 ?_
          refine ky_iconst C (1 : Int32) dX6_isTried_44 (by decide) ?_
          refine ky_iand C dX6_isTried_45 ?_
          refine ky_aload_n C dX6_isTried_46 0 rfl ?_
          refine ky_get C (ltR hG) (ceR hG) rfl inWX6 14 (by decide) (wY_in tw_3_84) rfl rfl dX6_isTried_47 ?_
          refine ky_iconst C (3 : Int32) dX6_isTried_50 (by decide) ?_
          refine ky_iload C dX6_isTried_51 4 rfl ?_
          refine ky_imul C dX6_isTried_53 ?_
          refine ky_iconst C (2 : Int32) dX6_isTried_54 (by decide) ?_
          refine ky_iadd C dX6_isTried_55 ?_
          refine ky_iald C (ltA hG ar8) (ceA8 hG) (tR0 hG) dX6_isTried_56 (fun hx5 => ?_)
          refine ky_icmp_ne C 64 dX6_isTried_57 (by decide) ?_ ?_
          · refine ky_iconst C (1 : Int32) dX6_isTried_60 (by decide) ?_
            refine ky_goto C 65 dX6_isTried_61 (by decide) ?_
            refine ky_istore_n (lv' := [(3, .int (1 : Int32)), (0, .ref (gA G 0)), (1, .int xv1), (2, .int xv2), (4, .int xv4)]) C dX6_isTried_65 (by decide) rfl ?_
            refine ky_iinc (lv' := fun x7 => [(4, .int x7), (3, .int (1 : Int32)), (0, .ref (gA G 0)), (1, .int xv1), (2, .int xv2)]) C dX6_isTried_66 4 rfl (d1 := (1 : Int32)) rfl (by decide) (fun _ => rfl) (fun x7 => ?_)
            refine ky_goto C 5 dX6_isTried_69 (by decide) ?_
            exact ky_sub [2, 3, 4, 1, 0] rfl (ih xv1 xv2 (1 : Int32) x7 M )
          · refine ky_iconst C (0 : Int32) dX6_isTried_64 (by decide) ?_
            refine ky_istore_n (lv' := [(3, .int (0 : Int32)), (0, .ref (gA G 0)), (1, .int xv1), (2, .int xv2), (4, .int xv4)]) C dX6_isTried_65 (by decide) rfl ?_
            refine ky_iinc (lv' := fun x6 => [(4, .int x6), (3, .int (0 : Int32)), (0, .ref (gA G 0)), (1, .int xv1), (2, .int xv2)]) C dX6_isTried_66 4 rfl (d1 := (1 : Int32)) rfl (by decide) (fun _ => rfl) (fun x6 => ?_)
            refine ky_goto C 5 dX6_isTried_69 (by decide) ?_
            exact ky_sub [2, 3, 4, 1, 0] rfl (ih xv1 xv2 (0 : Int32) x6 M )
        · refine ky_iconst C (1 : Int32) dX6_isTried_60 (by decide) ?_
          refine ky_goto C 65 dX6_isTried_61 (by decide) ?_
          refine ky_istore_n (lv' := [(3, .int (1 : Int32)), (0, .ref (gA G 0)), (1, .int xv1), (2, .int xv2), (4, .int xv4)]) C dX6_isTried_65 (by decide) rfl ?_
          refine ky_iinc (lv' := fun x3 => [(4, .int x3), (3, .int (1 : Int32)), (0, .ref (gA G 0)), (1, .int xv1), (2, .int xv2)]) C dX6_isTried_66 4 rfl (d1 := (1 : Int32)) rfl (by decide) (fun _ => rfl) (fun x3 => ?_)
          refine ky_goto C 5 dX6_isTried_69 (by decide) ?_
          exact ky_sub [2, 3, 4, 1, 0] rfl (ih xv1 xv2 (1 : Int32) x3 M )
def f_X6_isTried (F : Nat) (a1 : Int32) (a2 : Int32) (M : Mem) : Option (Int32 × Mem) := LX6_isTried_5 F  F a1 a2 (1 : Int32) (0 : Int32) M
set_option maxRecDepth 100000 in
set_option maxHeartbeats 4000000 in
theorem c_X6_isTried {G : KyG} {cy : ClassId} (hG : IsR G cy) (F : Nat)  (a1 : Int32) (a2 : Int32) (M : Mem)  : Ct G yX6_isTried (wY yX6_isTried cX6_isTried 5 (some .boolean)) rmX6_isTried rI [.ref (gA G 0), .int a1, .int a2] (f_X6_isTried F a1 a2 M) M := by
  refine Ct_of cX6_isTried 5 (some .boolean) RX6 hG.2.2.2 (by decide) rfl rfl (Nat.le_of_ble_eq_true rfl) rfl (fun E C => ?_)
  unfold f_X6_isTried
  refine ky_iconst C (1 : Int32) dX6_isTried_0 (by decide) ?_
  refine ky_istore_n (lv' := [(3, .int (1 : Int32)), (0, .ref (gA G 0)), (1, .int a1), (2, .int a2)]) C dX6_isTried_1 (by decide) rfl ?_
  refine ky_iconst C (0 : Int32) dX6_isTried_2 (by decide) ?_
  refine ky_istore (lv' := [(4, .int (0 : Int32)), (3, .int (1 : Int32)), (0, .ref (gA G 0)), (1, .int a1), (2, .int a2)]) C dX6_isTried_3 (by decide) rfl ?_
  exact ky_sub [2, 3, 4, 1, 0] rfl (lX6_isTried_5 hG C F   F a1 a2 (1 : Int32) (0 : Int32) M )
def rmX6_attemptOf : Room := { frames := 1, cells := 0, slots := 0, locals := 24 }
theorem hd_X6_attemptOf : yX6_attemptOf.cls = RX6 ∧ yX6_attemptOf.cls ≠ "java/lang/invoke/MethodHandle" ∧ yX6_attemptOf.cls ≠ "java/lang/invoke/VarHandle" ∧ (parseMethodDescriptor yX6_attemptOf.desc).map (fun d => d.parameters.length) = some 1 := ⟨rfl, by decide, by decide, by decide +kernel⟩
def LX6_attemptOf_24 (F : Nat) (q97 : Int32 → Int32 → Int32 → Int32 → Int32 → Int32 → Mem → Option (Int32 × Mem)) : Nat → Int32 → Int32 → Int32 → Int32 → Int32 → Int32 → Int32 → Mem → Option (Int32 × Mem)
  | 0, _, _, _, _, _, _, _, _ => none
  | n + 1, xv1, xv2, xv3, xv4, xv5, xv6, xv7, M => if (64 : Int32) ≤ xv7 then (q97 xv1 xv2 xv3 xv4 xv5 xv6 M) else (bd (f_X6_isTried F xv1 xv7 M) (fun r1 M2 => if r1 = 0 then (nm (xv5 + (0 : Int32)) (fun x3 => if r1 = 0 then (nm (xv6 + (0 : Int32)) (fun x4 => nm (xv7 + (1 : Int32)) (fun x5 => LX6_attemptOf_24 F q97 n xv1 xv2 xv3 xv4 x3 x4 x5 M2))) else (if ((xv7 >>> (xv4 &&& 31)) &&& (1 : Int32)) = 0 then (nm (xv6 + (1 : Int32)) (fun x8 => nm (xv7 + (1 : Int32)) (fun x9 => LX6_attemptOf_24 F q97 n xv1 xv2 xv3 xv4 x3 x8 x9 M2))) else (nm (xv6 + (0 : Int32)) (fun x6 => nm (xv7 + (1 : Int32)) (fun x7 => LX6_attemptOf_24 F q97 n xv1 xv2 xv3 xv4 x3 x6 x7 M2)))))) else (if ((xv7 >>> (xv4 &&& 31)) &&& (1 : Int32)) = (1 : Int32) then (nm (xv5 + (1 : Int32)) (fun x17 => if r1 = 0 then (nm (xv6 + (0 : Int32)) (fun x18 => nm (xv7 + (1 : Int32)) (fun x19 => LX6_attemptOf_24 F q97 n xv1 xv2 xv3 xv4 x17 x18 x19 M2))) else (if ((xv7 >>> (xv4 &&& 31)) &&& (1 : Int32)) = 0 then (nm (xv6 + (1 : Int32)) (fun x22 => nm (xv7 + (1 : Int32)) (fun x23 => LX6_attemptOf_24 F q97 n xv1 xv2 xv3 xv4 x17 x22 x23 M2))) else (nm (xv6 + (0 : Int32)) (fun x20 => nm (xv7 + (1 : Int32)) (fun x21 => LX6_attemptOf_24 F q97 n xv1 xv2 xv3 xv4 x17 x20 x21 M2)))))) else (nm (xv5 + (0 : Int32)) (fun x10 => if r1 = 0 then (nm (xv6 + (0 : Int32)) (fun x11 => nm (xv7 + (1 : Int32)) (fun x12 => LX6_attemptOf_24 F q97 n xv1 xv2 xv3 xv4 x10 x11 x12 M2))) else (if ((xv7 >>> (xv4 &&& 31)) &&& (1 : Int32)) = 0 then (nm (xv6 + (1 : Int32)) (fun x15 => nm (xv7 + (1 : Int32)) (fun x16 => LX6_attemptOf_24 F q97 n xv1 xv2 xv3 xv4 x10 x15 x16 M2))) else (nm (xv6 + (0 : Int32)) (fun x13 => nm (xv7 + (1 : Int32)) (fun x14 => LX6_attemptOf_24 F q97 n xv1 xv2 xv3 xv4 x10 x13 x14 M2)))))))))
theorem LX6_attemptOf_24_s (F : Nat) (q97 : Int32 → Int32 → Int32 → Int32 → Int32 → Int32 → Mem → Option (Int32 × Mem)) (n : Nat) (xv1 : Int32) (xv2 : Int32) (xv3 : Int32) (xv4 : Int32) (xv5 : Int32) (xv6 : Int32) (xv7 : Int32) (M : Mem) : LX6_attemptOf_24 F q97 (n + 1) xv1 xv2 xv3 xv4 xv5 xv6 xv7 M = (if (64 : Int32) ≤ xv7 then (q97 xv1 xv2 xv3 xv4 xv5 xv6 M) else (bd (f_X6_isTried F xv1 xv7 M) (fun r1 M2 => if r1 = 0 then (nm (xv5 + (0 : Int32)) (fun x3 => if r1 = 0 then (nm (xv6 + (0 : Int32)) (fun x4 => nm (xv7 + (1 : Int32)) (fun x5 => LX6_attemptOf_24 F q97 n xv1 xv2 xv3 xv4 x3 x4 x5 M2))) else (if ((xv7 >>> (xv4 &&& 31)) &&& (1 : Int32)) = 0 then (nm (xv6 + (1 : Int32)) (fun x8 => nm (xv7 + (1 : Int32)) (fun x9 => LX6_attemptOf_24 F q97 n xv1 xv2 xv3 xv4 x3 x8 x9 M2))) else (nm (xv6 + (0 : Int32)) (fun x6 => nm (xv7 + (1 : Int32)) (fun x7 => LX6_attemptOf_24 F q97 n xv1 xv2 xv3 xv4 x3 x6 x7 M2)))))) else (if ((xv7 >>> (xv4 &&& 31)) &&& (1 : Int32)) = (1 : Int32) then (nm (xv5 + (1 : Int32)) (fun x17 => if r1 = 0 then (nm (xv6 + (0 : Int32)) (fun x18 => nm (xv7 + (1 : Int32)) (fun x19 => LX6_attemptOf_24 F q97 n xv1 xv2 xv3 xv4 x17 x18 x19 M2))) else (if ((xv7 >>> (xv4 &&& 31)) &&& (1 : Int32)) = 0 then (nm (xv6 + (1 : Int32)) (fun x22 => nm (xv7 + (1 : Int32)) (fun x23 => LX6_attemptOf_24 F q97 n xv1 xv2 xv3 xv4 x17 x22 x23 M2))) else (nm (xv6 + (0 : Int32)) (fun x20 => nm (xv7 + (1 : Int32)) (fun x21 => LX6_attemptOf_24 F q97 n xv1 xv2 xv3 xv4 x17 x20 x21 M2)))))) else (nm (xv5 + (0 : Int32)) (fun x10 => if r1 = 0 then (nm (xv6 + (0 : Int32)) (fun x11 => nm (xv7 + (1 : Int32)) (fun x12 => LX6_attemptOf_24 F q97 n xv1 xv2 xv3 xv4 x10 x11 x12 M2))) else (if ((xv7 >>> (xv4 &&& 31)) &&& (1 : Int32)) = 0 then (nm (xv6 + (1 : Int32)) (fun x15 => nm (xv7 + (1 : Int32)) (fun x16 => LX6_attemptOf_24 F q97 n xv1 xv2 xv3 xv4 x10 x15 x16 M2))) else (nm (xv6 + (0 : Int32)) (fun x13 => nm (xv7 + (1 : Int32)) (fun x14 => LX6_attemptOf_24 F q97 n xv1 xv2 xv3 xv4 x10 x13 x14 M2)))))))))) := rfl
set_option maxRecDepth 100000 in
set_option maxHeartbeats 4000000 in
theorem lX6_attemptOf_24 {G : KyG} {cy : ClassId} (hG : IsR G cy) {E : KyE} (C : Cx G E cX6_attemptOf 9 RX6 (wY yX6_attemptOf cX6_attemptOf 9 (some .int)) (some .int) rmX6_attemptOf) (F : Nat) (q97 : Int32 → Int32 → Int32 → Int32 → Int32 → Int32 → Mem → Option (Int32 × Mem)) (hq97 : ∀ (xv1 : Int32) (xv2 : Int32) (xv3 : Int32) (xv4 : Int32) (xv5 : Int32) (xv6 : Int32) (M : Mem) , Wo G E 9 rI (q97 xv1 xv2 xv3 xv4 xv5 xv6 M) M 97 [(0, .ref (gA G 0)), (1, .int xv1), (2, .int xv2), (3, .int xv3), (4, .int xv4), (5, .int xv5), (6, .int xv6)] []) : ∀ (n : Nat) (xv1 : Int32) (xv2 : Int32) (xv3 : Int32) (xv4 : Int32) (xv5 : Int32) (xv6 : Int32) (xv7 : Int32) (M : Mem) , Wo G E 9 rI (LX6_attemptOf_24 F q97 n xv1 xv2 xv3 xv4 xv5 xv6 xv7 M) M 24 [(0, .ref (gA G 0)), (1, .int xv1), (2, .int xv2), (3, .int xv3), (4, .int xv4), (5, .int xv5), (6, .int xv6), (7, .int xv7)] [] := by
  intro n
  induction n with
  | zero => intro xv1 xv2 xv3 xv4 xv5 xv6 xv7 M ; exact ky_none
  | succ n ih =>
    intro xv1 xv2 xv3 xv4 xv5 xv6 xv7 M 
    rw [LX6_attemptOf_24_s]
    refine ky_iload C dX6_attemptOf_24 7 rfl ?_
    refine ky_bipush C (64 : Int32) dX6_attemptOf_26 (by decide) ?_
    refine ky_icmp_ge C 97 dX6_attemptOf_28 (by decide) ?_ ?_
    · exact ky_sub [0, 1, 2, 3, 4, 5, 6] rfl (hq97 xv1 xv2 xv3 xv4 xv5 xv6 M )
    · refine ky_aload_n C dX6_attemptOf_31 0 rfl ?_
      refine ky_iload_n C dX6_attemptOf_32 1 rfl ?_
      refine ky_iload C dX6_attemptOf_33 7 rfl ?_
      refine ky_callVi C (c_X6_isTried hG F xv1 xv7 M ) (ltR hG) (ceR hG) rfl (wY_goodV tw_4_73 tw_4_75 tw_p27 tw_1_7 tw_4_76) hd_X6_isTried ⟨rfl, rfl, by decide, by decide⟩ rfl rfl (Nat.le_of_ble_eq_true rfl) dX6_attemptOf_35 (fun r1 M2 => ?_)
      refine ky_istore (lv' := [(8, .int r1), (0, .ref (gA G 0)), (1, .int xv1), (2, .int xv2), (3, .int xv3), (4, .int xv4), (5, .int xv5), (6, .int xv6), (7, .int xv7)]) C dX6_attemptOf_38 (by decide) rfl ?_
      refine ky_iload C dX6_attemptOf_40 6 rfl ?_
      refine ky_iload C dX6_attemptOf_42 0 rfl ?_
      refine ky_if_eq C 62 dX6_attemptOf_44 (by decide) ?_ ?_
      · refine ky_iconst C (0 : Int32) dX6_attemptOf_62 (by decide) ?_
        refine ky_iadd C dX6_attemptOf_63 ?_
        refine ky_nmi (fun x3 => ?_)
        refine ky_istore (lv' := [(5, .int x3), (8, .int r1), (0, .ref (gA G 0)), (1, .int xv1), (2, .int xv2), (3, .int xv3), (4, .int xv4), (6, .int xv6), (7, .int xv7)]) C dX6_attemptOf_64 (by decide) rfl ?_
        refine ky_iload C dX6_attemptOf_66 7 rfl ?_
        refine ky_iload C dX6_attemptOf_68 1 rfl ?_
        refine ky_if_eq C 87 dX6_attemptOf_70 (by decide) ?_ ?_
        · refine ky_iconst C (0 : Int32) dX6_attemptOf_87 (by decide) ?_
          refine ky_iadd C dX6_attemptOf_88 ?_
          refine ky_nmi (fun x4 => ?_)
          refine ky_istore (lv' := [(6, .int x4), (5, .int x3), (8, .int r1), (0, .ref (gA G 0)), (1, .int xv1), (2, .int xv2), (3, .int xv3), (4, .int xv4), (7, .int xv7)]) C dX6_attemptOf_89 (by decide) rfl ?_
          refine ky_iinc (lv' := fun x5 => [(7, .int x5), (6, .int x4), (5, .int x3), (8, .int r1), (0, .ref (gA G 0)), (1, .int xv1), (2, .int xv2), (3, .int xv3), (4, .int xv4)]) C dX6_attemptOf_91 8 rfl (d1 := (1 : Int32)) rfl (by decide) (fun _ => rfl) (fun x5 => ?_)
          refine ky_goto C 24 dX6_attemptOf_94 (by decide) ?_
          exact ky_sub [4, 5, 6, 7, 8, 2, 1, 0] rfl (ih xv1 xv2 xv3 xv4 x3 x4 x5 M2 )
        · refine ky_iload C dX6_attemptOf_73 8 rfl ?_
          refine ky_iload C dX6_attemptOf_75 6 rfl ?_
          refine ky_ishr C dX6_attemptOf_77 ?_
          refine ky_iconst C (1 : Int32) dX6_attemptOf_78 (by decide) ?_
          refine ky_iand C dX6_attemptOf_79 ?_
          refine ky_if_ne C 87 dX6_attemptOf_80 (by decide) ?_ ?_
          · refine ky_iconst C (1 : Int32) dX6_attemptOf_83 (by decide) ?_
            refine ky_goto C 88 dX6_attemptOf_84 (by decide) ?_
            refine ky_iadd C dX6_attemptOf_88 ?_
            refine ky_nmi (fun x8 => ?_)
            refine ky_istore (lv' := [(6, .int x8), (5, .int x3), (8, .int r1), (0, .ref (gA G 0)), (1, .int xv1), (2, .int xv2), (3, .int xv3), (4, .int xv4), (7, .int xv7)]) C dX6_attemptOf_89 (by decide) rfl ?_
            refine ky_iinc (lv' := fun x9 => [(7, .int x9), (6, .int x8), (5, .int x3), (8, .int r1), (0, .ref (gA G 0)), (1, .int xv1), (2, .int xv2), (3, .int xv3), (4, .int xv4)]) C dX6_attemptOf_91 8 rfl (d1 := (1 : Int32)) rfl (by decide) (fun _ => rfl) (fun x9 => ?_)
            refine ky_goto C 24 dX6_attemptOf_94 (by decide) ?_
            exact ky_sub [4, 5, 6, 7, 8, 2, 1, 0] rfl (ih xv1 xv2 xv3 xv4 x3 x8 x9 M2 )
          · refine ky_iconst C (0 : Int32) dX6_attemptOf_87 (by decide) ?_
            refine ky_iadd C dX6_attemptOf_88 ?_
            refine ky_nmi (fun x6 => ?_)
            refine ky_istore (lv' := [(6, .int x6), (5, .int x3), (8, .int r1), (0, .ref (gA G 0)), (1, .int xv1), (2, .int xv2), (3, .int xv3), (4, .int xv4), (7, .int xv7)]) C dX6_attemptOf_89 (by decide) rfl ?_
            refine ky_iinc (lv' := fun x7 => [(7, .int x7), (6, .int x6), (5, .int x3), (8, .int r1), (0, .ref (gA G 0)), (1, .int xv1), (2, .int xv2), (3, .int xv3), (4, .int xv4)]) C dX6_attemptOf_91 8 rfl (d1 := (1 : Int32)) rfl (by decide) (fun _ => rfl) (fun x7 => ?_)
            refine ky_goto C 24 dX6_attemptOf_94 (by decide) ?_
            exact ky_sub [4, 5, 6, 7, 8, 2, 1, 0] rfl (ih xv1 xv2 xv3 xv4 x3 x6 x7 M2 )
      · refine ky_iload C dX6_attemptOf_47 8 rfl ?_
        refine ky_iload C dX6_attemptOf_49 5 rfl ?_
        refine ky_ishr C dX6_attemptOf_51 ?_
        refine ky_iconst C (1 : Int32) dX6_attemptOf_52 (by decide) ?_
        refine ky_iand C dX6_attemptOf_53 ?_
        refine ky_iconst C (1 : Int32) dX6_attemptOf_54 (by decide) ?_
        refine ky_icmp_ne C 62 dX6_attemptOf_55 (by decide) ?_ ?_
        · refine ky_iconst C (1 : Int32) dX6_attemptOf_58 (by decide) ?_
          refine ky_goto C 63 dX6_attemptOf_59 (by decide) ?_
          refine ky_iadd C dX6_attemptOf_63 ?_
          refine ky_nmi (fun x17 => ?_)
          refine ky_istore (lv' := [(5, .int x17), (8, .int r1), (0, .ref (gA G 0)), (1, .int xv1), (2, .int xv2), (3, .int xv3), (4, .int xv4), (6, .int xv6), (7, .int xv7)]) C dX6_attemptOf_64 (by decide) rfl ?_
          refine ky_iload C dX6_attemptOf_66 7 rfl ?_
          refine ky_iload C dX6_attemptOf_68 1 rfl ?_
          refine ky_if_eq C 87 dX6_attemptOf_70 (by decide) ?_ ?_
          · refine ky_iconst C (0 : Int32) dX6_attemptOf_87 (by decide) ?_
            refine ky_iadd C dX6_attemptOf_88 ?_
            refine ky_nmi (fun x18 => ?_)
            refine ky_istore (lv' := [(6, .int x18), (5, .int x17), (8, .int r1), (0, .ref (gA G 0)), (1, .int xv1), (2, .int xv2), (3, .int xv3), (4, .int xv4), (7, .int xv7)]) C dX6_attemptOf_89 (by decide) rfl ?_
            refine ky_iinc (lv' := fun x19 => [(7, .int x19), (6, .int x18), (5, .int x17), (8, .int r1), (0, .ref (gA G 0)), (1, .int xv1), (2, .int xv2), (3, .int xv3), (4, .int xv4)]) C dX6_attemptOf_91 8 rfl (d1 := (1 : Int32)) rfl (by decide) (fun _ => rfl) (fun x19 => ?_)
            refine ky_goto C 24 dX6_attemptOf_94 (by decide) ?_
            exact ky_sub [4, 5, 6, 7, 8, 2, 1, 0] rfl (ih xv1 xv2 xv3 xv4 x17 x18 x19 M2 )
          · refine ky_iload C dX6_attemptOf_73 8 rfl ?_
            refine ky_iload C dX6_attemptOf_75 6 rfl ?_
            refine ky_ishr C dX6_attemptOf_77 ?_
            refine ky_iconst C (1 : Int32) dX6_attemptOf_78 (by decide) ?_
            refine ky_iand C dX6_attemptOf_79 ?_
            refine ky_if_ne C 87 dX6_attemptOf_80 (by decide) ?_ ?_
            · refine ky_iconst C (1 : Int32) dX6_attemptOf_83 (by decide) ?_
              refine ky_goto C 88 dX6_attemptOf_84 (by decide) ?_
              refine ky_iadd C dX6_attemptOf_88 ?_
              refine ky_nmi (fun x22 => ?_)
              refine ky_istore (lv' := [(6, .int x22), (5, .int x17), (8, .int r1), (0, .ref (gA G 0)), (1, .int xv1), (2, .int xv2), (3, .int xv3), (4, .int xv4), (7, .int xv7)]) C dX6_attemptOf_89 (by decide) rfl ?_
              refine ky_iinc (lv' := fun x23 => [(7, .int x23), (6, .int x22), (5, .int x17), (8, .int r1), (0, .ref (gA G 0)), (1, .int xv1), (2, .int xv2), (3, .int xv3), (4, .int xv4)]) C dX6_attemptOf_91 8 rfl (d1 := (1 : Int32)) rfl (by decide) (fun _ => rfl) (fun x23 => ?_)
              refine ky_goto C 24 dX6_attemptOf_94 (by decide) ?_
              exact ky_sub [4, 5, 6, 7, 8, 2, 1, 0] rfl (ih xv1 xv2 xv3 xv4 x17 x22 x23 M2 )
            · refine ky_iconst C (0 : Int32) dX6_attemptOf_87 (by decide) ?_
              refine ky_iadd C dX6_attemptOf_88 ?_
              refine ky_nmi (fun x20 => ?_)
              refine ky_istore (lv' := [(6, .int x20), (5, .int x17), (8, .int r1), (0, .ref (gA G 0)), (1, .int xv1), (2, .int xv2), (3, .int xv3), (4, .int xv4), (7, .int xv7)]) C dX6_attemptOf_89 (by decide) rfl ?_
              refine ky_iinc (lv' := fun x21 => [(7, .int x21), (6, .int x20), (5, .int x17), (8, .int r1), (0, .ref (gA G 0)), (1, .int xv1), (2, .int xv2), (3, .int xv3), (4, .int xv4)]) C dX6_attemptOf_91 8 rfl (d1 := (1 : Int32)) rfl (by decide) (fun _ => rfl) (fun x21 => ?_)
              refine ky_goto C 24 dX6_attemptOf_94 (by decide) ?_
              exact ky_sub [4, 5, 6, 7, 8, 2, 1, 0] rfl (ih xv1 xv2 xv3 xv4 x17 x20 x21 M2 )
        · refine ky_iconst C (0 : Int32) dX6_attemptOf_62 (by decide) ?_
          refine ky_iadd C dX6_attemptOf_63 ?_
          refine ky_nmi (fun x10 => ?_)
          refine ky_istore (lv' := [(5, .int x10), (8, .int r1), (0, .ref (gA G 0)), (1, .int xv1), (2, .int xv2), (3, .int xv3), (4, .int xv4), (6, .int xv6), (7, .int xv7)]) C dX6_attemptOf_64 (by decide) rfl ?_
          refine ky_iload C dX6_attemptOf_66 7 rfl ?_
          refine ky_iload C dX6_attemptOf_68 1 rfl ?_
          refine ky_if_eq C 87 dX6_attemptOf_70 (by decide) ?_ ?_
          · refine ky_iconst C (0 : Int32) dX6_attemptOf_87 (by decide) ?_
            refine ky_iadd C dX6_attemptOf_88 ?_
            refine ky_nmi (fun x11 => ?_)
            refine ky_istore (lv' := [(6, .int x11), (5, .int x10), (8, .int r1), (0, .ref (gA G 0)), (1, .int xv1), (2, .int xv2), (3, .int xv3), (4, .int xv4), (7, .int xv7)]) C dX6_attemptOf_89 (by decide) rfl ?_
            refine ky_iinc (lv' := fun x12 => [(7, .int x12), (6, .int x11), (5, .int x10), (8, .int r1), (0, .ref (gA G 0)), (1, .int xv1), (2, .int xv2), (3, .int xv3), (4, .int xv4)]) C dX6_attemptOf_91 8 rfl (d1 := (1 : Int32)) rfl (by decide) (fun _ => rfl) (fun x12 => ?_)
            refine ky_goto C 24 dX6_attemptOf_94 (by decide) ?_
            exact ky_sub [4, 5, 6, 7, 8, 2, 1, 0] rfl (ih xv1 xv2 xv3 xv4 x10 x11 x12 M2 )
          · refine ky_iload C dX6_attemptOf_73 8 rfl ?_
            refine ky_iload C dX6_attemptOf_75 6 rfl ?_
            refine ky_ishr C dX6_attemptOf_77 ?_
            refine ky_iconst C (1 : Int32) dX6_attemptOf_78 (by decide) ?_
            refine ky_iand C dX6_attemptOf_79 ?_
            refine ky_if_ne C 87 dX6_attemptOf_80 (by decide) ?_ ?_
            · refine ky_iconst C (1 : Int32) dX6_attemptOf_83 (by decide) ?_
              refine ky_goto C 88 dX6_attemptOf_84 (by decide) ?_
              refine ky_iadd C dX6_attemptOf_88 ?_
              refine ky_nmi (fun x15 => ?_)
              refine ky_istore (lv' := [(6, .int x15), (5, .int x10), (8, .int r1), (0, .ref (gA G 0)), (1, .int xv1), (2, .int xv2), (3, .int xv3), (4, .int xv4), (7, .int xv7)]) C dX6_attemptOf_89 (by decide) rfl ?_
              refine ky_iinc (lv' := fun x16 => [(7, .int x16), (6, .int x15), (5, .int x10), (8, .int r1), (0, .ref (gA G 0)), (1, .int xv1), (2, .int xv2), (3, .int xv3), (4, .int xv4)]) C dX6_attemptOf_91 8 rfl (d1 := (1 : Int32)) rfl (by decide) (fun _ => rfl) (fun x16 => ?_)
              refine ky_goto C 24 dX6_attemptOf_94 (by decide) ?_
              exact ky_sub [4, 5, 6, 7, 8, 2, 1, 0] rfl (ih xv1 xv2 xv3 xv4 x10 x15 x16 M2 )
            · refine ky_iconst C (0 : Int32) dX6_attemptOf_87 (by decide) ?_
              refine ky_iadd C dX6_attemptOf_88 ?_
              refine ky_nmi (fun x13 => ?_)
              refine ky_istore (lv' := [(6, .int x13), (5, .int x10), (8, .int r1), (0, .ref (gA G 0)), (1, .int xv1), (2, .int xv2), (3, .int xv3), (4, .int xv4), (7, .int xv7)]) C dX6_attemptOf_89 (by decide) rfl ?_
              refine ky_iinc (lv' := fun x14 => [(7, .int x14), (6, .int x13), (5, .int x10), (8, .int r1), (0, .ref (gA G 0)), (1, .int xv1), (2, .int xv2), (3, .int xv3), (4, .int xv4)]) C dX6_attemptOf_91 8 rfl (d1 := (1 : Int32)) rfl (by decide) (fun _ => rfl) (fun x14 => ?_)
              refine ky_goto C 24 dX6_attemptOf_94 (by decide) ?_
              exact ky_sub [4, 5, 6, 7, 8, 2, 1, 0] rfl (ih xv1 xv2 xv3 xv4 x10 x13 x14 M2 )
def LX6_attemptOf_8 (F : Nat)  : Nat → Int32 → Int32 → Int32 → Int32 → Mem → Option (Int32 × Mem)
  | 0, _, _, _, _, _ => none
  | n + 1, xv1, xv2, xv3, xv4, M => if (6 : Int32) ≤ xv4 then (some (xv2, M)) else (LX6_attemptOf_24 F (fun y25 y26 y27 y28 y29 y30 M24 => if y29 ≤ y30 then (if y30 ≤ 0 then (if y27 ≤ y30 then (nm (y28 + (1 : Int32)) (fun x31 => LX6_attemptOf_8 F n y25 y26 y27 x31 M24)) else (nm (y28 + (1 : Int32)) (fun x32 => LX6_attemptOf_8 F n y25 y26 y30 x32 M24))) else (if y27 ≤ y30 then (if y27 ≤ y30 then (nm (y28 + (1 : Int32)) (fun x33 => LX6_attemptOf_8 F n y25 y26 y27 x33 M24)) else (nm (y28 + (1 : Int32)) (fun x34 => LX6_attemptOf_8 F n y25 y26 y30 x34 M24))) else (if y27 ≤ y30 then (nm (y28 + (1 : Int32)) (fun x35 => LX6_attemptOf_8 F n y25 y28 y27 x35 M24)) else (nm (y28 + (1 : Int32)) (fun x36 => LX6_attemptOf_8 F n y25 y28 y30 x36 M24))))) else (if y29 ≤ 0 then (if y27 ≤ y29 then (nm (y28 + (1 : Int32)) (fun x37 => LX6_attemptOf_8 F n y25 y26 y27 x37 M24)) else (nm (y28 + (1 : Int32)) (fun x38 => LX6_attemptOf_8 F n y25 y26 y29 x38 M24))) else (if y27 ≤ y29 then (if y27 ≤ y29 then (nm (y28 + (1 : Int32)) (fun x39 => LX6_attemptOf_8 F n y25 y26 y27 x39 M24)) else (nm (y28 + (1 : Int32)) (fun x40 => LX6_attemptOf_8 F n y25 y26 y29 x40 M24))) else (if y27 ≤ y29 then (nm (y28 + (1 : Int32)) (fun x41 => LX6_attemptOf_8 F n y25 y28 y27 x41 M24)) else (nm (y28 + (1 : Int32)) (fun x42 => LX6_attemptOf_8 F n y25 y28 y29 x42 M24)))))) F xv1 xv2 xv3 xv4 (0 : Int32) (0 : Int32) (0 : Int32) M)
theorem LX6_attemptOf_8_s (F : Nat)  (n : Nat) (xv1 : Int32) (xv2 : Int32) (xv3 : Int32) (xv4 : Int32) (M : Mem) : LX6_attemptOf_8 F (n + 1) xv1 xv2 xv3 xv4 M = (if (6 : Int32) ≤ xv4 then (some (xv2, M)) else (LX6_attemptOf_24 F (fun y25 y26 y27 y28 y29 y30 M24 => if y29 ≤ y30 then (if y30 ≤ 0 then (if y27 ≤ y30 then (nm (y28 + (1 : Int32)) (fun x31 => LX6_attemptOf_8 F n y25 y26 y27 x31 M24)) else (nm (y28 + (1 : Int32)) (fun x32 => LX6_attemptOf_8 F n y25 y26 y30 x32 M24))) else (if y27 ≤ y30 then (if y27 ≤ y30 then (nm (y28 + (1 : Int32)) (fun x33 => LX6_attemptOf_8 F n y25 y26 y27 x33 M24)) else (nm (y28 + (1 : Int32)) (fun x34 => LX6_attemptOf_8 F n y25 y26 y30 x34 M24))) else (if y27 ≤ y30 then (nm (y28 + (1 : Int32)) (fun x35 => LX6_attemptOf_8 F n y25 y28 y27 x35 M24)) else (nm (y28 + (1 : Int32)) (fun x36 => LX6_attemptOf_8 F n y25 y28 y30 x36 M24))))) else (if y29 ≤ 0 then (if y27 ≤ y29 then (nm (y28 + (1 : Int32)) (fun x37 => LX6_attemptOf_8 F n y25 y26 y27 x37 M24)) else (nm (y28 + (1 : Int32)) (fun x38 => LX6_attemptOf_8 F n y25 y26 y29 x38 M24))) else (if y27 ≤ y29 then (if y27 ≤ y29 then (nm (y28 + (1 : Int32)) (fun x39 => LX6_attemptOf_8 F n y25 y26 y27 x39 M24)) else (nm (y28 + (1 : Int32)) (fun x40 => LX6_attemptOf_8 F n y25 y26 y29 x40 M24))) else (if y27 ≤ y29 then (nm (y28 + (1 : Int32)) (fun x41 => LX6_attemptOf_8 F n y25 y28 y27 x41 M24)) else (nm (y28 + (1 : Int32)) (fun x42 => LX6_attemptOf_8 F n y25 y28 y29 x42 M24)))))) F xv1 xv2 xv3 xv4 (0 : Int32) (0 : Int32) (0 : Int32) M)) := rfl
set_option maxRecDepth 100000 in
set_option maxHeartbeats 4000000 in
theorem lX6_attemptOf_8 {G : KyG} {cy : ClassId} (hG : IsR G cy) {E : KyE} (C : Cx G E cX6_attemptOf 9 RX6 (wY yX6_attemptOf cX6_attemptOf 9 (some .int)) (some .int) rmX6_attemptOf) (F : Nat)   : ∀ (n : Nat) (xv1 : Int32) (xv2 : Int32) (xv3 : Int32) (xv4 : Int32) (M : Mem) , Wo G E 9 rI (LX6_attemptOf_8 F n xv1 xv2 xv3 xv4 M) M 8 [(0, .ref (gA G 0)), (1, .int xv1), (2, .int xv2), (3, .int xv3), (4, .int xv4)] [] := by
  intro n
  induction n with
  | zero => intro xv1 xv2 xv3 xv4 M ; exact ky_none
  | succ n ih =>
    intro xv1 xv2 xv3 xv4 M 
    rw [LX6_attemptOf_8_s]
    refine ky_iload C dX6_attemptOf_8 4 rfl ?_
    refine ky_bipush C (6 : Int32) dX6_attemptOf_10 (by decide) ?_
    refine ky_icmp_ge C 150 dX6_attemptOf_12 (by decide) ?_ ?_
    · refine ky_iload_n C dX6_attemptOf_150 2 rfl ?_
      exact ky_iret C dX6_attemptOf_151
    · refine ky_iconst C (0 : Int32) dX6_attemptOf_15 (by decide) ?_
      refine ky_istore (lv' := [(5, .int (0 : Int32)), (0, .ref (gA G 0)), (1, .int xv1), (2, .int xv2), (3, .int xv3), (4, .int xv4)]) C dX6_attemptOf_16 (by decide) rfl ?_
      refine ky_iconst C (0 : Int32) dX6_attemptOf_18 (by decide) ?_
      refine ky_istore (lv' := [(6, .int (0 : Int32)), (5, .int (0 : Int32)), (0, .ref (gA G 0)), (1, .int xv1), (2, .int xv2), (3, .int xv3), (4, .int xv4)]) C dX6_attemptOf_19 (by decide) rfl ?_
      refine ky_iconst C (0 : Int32) dX6_attemptOf_21 (by decide) ?_
      refine ky_istore (lv' := [(7, .int (0 : Int32)), (6, .int (0 : Int32)), (5, .int (0 : Int32)), (0, .ref (gA G 0)), (1, .int xv1), (2, .int xv2), (3, .int xv3), (4, .int xv4)]) C dX6_attemptOf_22 (by decide) rfl ?_
      refine ky_sub [3, 4, 5, 6, 7, 2, 1, 0] rfl (lX6_attemptOf_24 hG C F _ ?_ F xv1 xv2 xv3 xv4 (0 : Int32) (0 : Int32) (0 : Int32) M )
      · intro y25 y26 y27 y28 y29 y30 M24 
        refine ky_iload C dX6_attemptOf_97 5 rfl ?_
        refine ky_iload C dX6_attemptOf_99 6 rfl ?_
        refine ky_icmp_le C 109 dX6_attemptOf_101 (by decide) ?_ ?_
        · refine ky_iload C dX6_attemptOf_109 6 rfl ?_
          refine ky_istore (lv' := [(7, .int y30), (0, .ref (gA G 0)), (1, .int y25), (2, .int y26), (3, .int y27), (4, .int y28), (5, .int y29), (6, .int y30)]) C dX6_attemptOf_111 (by decide) rfl ?_
          refine ky_iload C dX6_attemptOf_113 0 rfl ?_
          refine ky_if_le C 129 dX6_attemptOf_115 (by decide) ?_ ?_
          · refine ky_iload_n C dX6_attemptOf_129 3 rfl ?_
            refine ky_istore_n (lv' := [(2, .int y26), (7, .int y30), (0, .ref (gA G 0)), (1, .int y25), (3, .int y27), (4, .int y28), (5, .int y29), (6, .int y30)]) C dX6_attemptOf_130 (by decide) rfl ?_
            refine ky_iload C dX6_attemptOf_131 1 rfl ?_
            refine ky_iload_n C dX6_attemptOf_133 4 rfl ?_
            refine ky_icmp_ge C 142 dX6_attemptOf_134 (by decide) ?_ ?_
            · refine ky_iload_n C dX6_attemptOf_142 4 rfl ?_
              refine ky_istore_n (lv' := [(3, .int y27), (2, .int y26), (7, .int y30), (0, .ref (gA G 0)), (1, .int y25), (4, .int y28), (5, .int y29), (6, .int y30)]) C dX6_attemptOf_143 (by decide) rfl ?_
              refine ky_iinc (lv' := fun x31 => [(4, .int x31), (3, .int y27), (2, .int y26), (7, .int y30), (0, .ref (gA G 0)), (1, .int y25), (5, .int y29), (6, .int y30)]) C dX6_attemptOf_144 5 rfl (d1 := (1 : Int32)) rfl (by decide) (fun _ => rfl) (fun x31 => ?_)
              refine ky_goto C 8 dX6_attemptOf_147 (by decide) ?_
              exact ky_sub [4, 5, 2, 1, 0] rfl (ih y25 y26 y27 x31 M24 )
            · refine ky_iload C dX6_attemptOf_137 1 rfl ?_
              refine ky_goto C 143 dX6_attemptOf_139 (by decide) ?_
              refine ky_istore_n (lv' := [(3, .int y30), (2, .int y26), (7, .int y30), (0, .ref (gA G 0)), (1, .int y25), (4, .int y28), (5, .int y29), (6, .int y30)]) C dX6_attemptOf_143 (by decide) rfl ?_
              refine ky_iinc (lv' := fun x32 => [(4, .int x32), (3, .int y30), (2, .int y26), (7, .int y30), (0, .ref (gA G 0)), (1, .int y25), (5, .int y29), (6, .int y30)]) C dX6_attemptOf_144 5 rfl (d1 := (1 : Int32)) rfl (by decide) (fun _ => rfl) (fun x32 => ?_)
              refine ky_goto C 8 dX6_attemptOf_147 (by decide) ?_
              exact ky_sub [4, 5, 2, 1, 0] rfl (ih y25 y26 y30 x32 M24 )
          · refine ky_iload C dX6_attemptOf_118 0 rfl ?_
            refine ky_iload_n C dX6_attemptOf_120 4 rfl ?_
            refine ky_icmp_ge C 129 dX6_attemptOf_121 (by decide) ?_ ?_
            · refine ky_iload_n C dX6_attemptOf_129 3 rfl ?_
              refine ky_istore_n (lv' := [(2, .int y26), (7, .int y30), (0, .ref (gA G 0)), (1, .int y25), (3, .int y27), (4, .int y28), (5, .int y29), (6, .int y30)]) C dX6_attemptOf_130 (by decide) rfl ?_
              refine ky_iload C dX6_attemptOf_131 1 rfl ?_
              refine ky_iload_n C dX6_attemptOf_133 4 rfl ?_
              refine ky_icmp_ge C 142 dX6_attemptOf_134 (by decide) ?_ ?_
              · refine ky_iload_n C dX6_attemptOf_142 4 rfl ?_
                refine ky_istore_n (lv' := [(3, .int y27), (2, .int y26), (7, .int y30), (0, .ref (gA G 0)), (1, .int y25), (4, .int y28), (5, .int y29), (6, .int y30)]) C dX6_attemptOf_143 (by decide) rfl ?_
                refine ky_iinc (lv' := fun x33 => [(4, .int x33), (3, .int y27), (2, .int y26), (7, .int y30), (0, .ref (gA G 0)), (1, .int y25), (5, .int y29), (6, .int y30)]) C dX6_attemptOf_144 5 rfl (d1 := (1 : Int32)) rfl (by decide) (fun _ => rfl) (fun x33 => ?_)
                refine ky_goto C 8 dX6_attemptOf_147 (by decide) ?_
                exact ky_sub [4, 5, 2, 1, 0] rfl (ih y25 y26 y27 x33 M24 )
              · refine ky_iload C dX6_attemptOf_137 1 rfl ?_
                refine ky_goto C 143 dX6_attemptOf_139 (by decide) ?_
                refine ky_istore_n (lv' := [(3, .int y30), (2, .int y26), (7, .int y30), (0, .ref (gA G 0)), (1, .int y25), (4, .int y28), (5, .int y29), (6, .int y30)]) C dX6_attemptOf_143 (by decide) rfl ?_
                refine ky_iinc (lv' := fun x34 => [(4, .int x34), (3, .int y30), (2, .int y26), (7, .int y30), (0, .ref (gA G 0)), (1, .int y25), (5, .int y29), (6, .int y30)]) C dX6_attemptOf_144 5 rfl (d1 := (1 : Int32)) rfl (by decide) (fun _ => rfl) (fun x34 => ?_)
                refine ky_goto C 8 dX6_attemptOf_147 (by decide) ?_
                exact ky_sub [4, 5, 2, 1, 0] rfl (ih y25 y26 y30 x34 M24 )
            · refine ky_iload C dX6_attemptOf_124 5 rfl ?_
              refine ky_goto C 130 dX6_attemptOf_126 (by decide) ?_
              refine ky_istore_n (lv' := [(2, .int y28), (7, .int y30), (0, .ref (gA G 0)), (1, .int y25), (3, .int y27), (4, .int y28), (5, .int y29), (6, .int y30)]) C dX6_attemptOf_130 (by decide) rfl ?_
              refine ky_iload C dX6_attemptOf_131 1 rfl ?_
              refine ky_iload_n C dX6_attemptOf_133 4 rfl ?_
              refine ky_icmp_ge C 142 dX6_attemptOf_134 (by decide) ?_ ?_
              · refine ky_iload_n C dX6_attemptOf_142 4 rfl ?_
                refine ky_istore_n (lv' := [(3, .int y27), (2, .int y28), (7, .int y30), (0, .ref (gA G 0)), (1, .int y25), (4, .int y28), (5, .int y29), (6, .int y30)]) C dX6_attemptOf_143 (by decide) rfl ?_
                refine ky_iinc (lv' := fun x35 => [(4, .int x35), (3, .int y27), (2, .int y28), (7, .int y30), (0, .ref (gA G 0)), (1, .int y25), (5, .int y29), (6, .int y30)]) C dX6_attemptOf_144 5 rfl (d1 := (1 : Int32)) rfl (by decide) (fun _ => rfl) (fun x35 => ?_)
                refine ky_goto C 8 dX6_attemptOf_147 (by decide) ?_
                exact ky_sub [4, 5, 2, 1, 0] rfl (ih y25 y28 y27 x35 M24 )
              · refine ky_iload C dX6_attemptOf_137 1 rfl ?_
                refine ky_goto C 143 dX6_attemptOf_139 (by decide) ?_
                refine ky_istore_n (lv' := [(3, .int y30), (2, .int y28), (7, .int y30), (0, .ref (gA G 0)), (1, .int y25), (4, .int y28), (5, .int y29), (6, .int y30)]) C dX6_attemptOf_143 (by decide) rfl ?_
                refine ky_iinc (lv' := fun x36 => [(4, .int x36), (3, .int y30), (2, .int y28), (7, .int y30), (0, .ref (gA G 0)), (1, .int y25), (5, .int y29), (6, .int y30)]) C dX6_attemptOf_144 5 rfl (d1 := (1 : Int32)) rfl (by decide) (fun _ => rfl) (fun x36 => ?_)
                refine ky_goto C 8 dX6_attemptOf_147 (by decide) ?_
                exact ky_sub [4, 5, 2, 1, 0] rfl (ih y25 y28 y30 x36 M24 )
        · refine ky_iload C dX6_attemptOf_104 5 rfl ?_
          refine ky_goto C 111 dX6_attemptOf_106 (by decide) ?_
          refine ky_istore (lv' := [(7, .int y29), (0, .ref (gA G 0)), (1, .int y25), (2, .int y26), (3, .int y27), (4, .int y28), (5, .int y29), (6, .int y30)]) C dX6_attemptOf_111 (by decide) rfl ?_
          refine ky_iload C dX6_attemptOf_113 0 rfl ?_
          refine ky_if_le C 129 dX6_attemptOf_115 (by decide) ?_ ?_
          · refine ky_iload_n C dX6_attemptOf_129 3 rfl ?_
            refine ky_istore_n (lv' := [(2, .int y26), (7, .int y29), (0, .ref (gA G 0)), (1, .int y25), (3, .int y27), (4, .int y28), (5, .int y29), (6, .int y30)]) C dX6_attemptOf_130 (by decide) rfl ?_
            refine ky_iload C dX6_attemptOf_131 1 rfl ?_
            refine ky_iload_n C dX6_attemptOf_133 4 rfl ?_
            refine ky_icmp_ge C 142 dX6_attemptOf_134 (by decide) ?_ ?_
            · refine ky_iload_n C dX6_attemptOf_142 4 rfl ?_
              refine ky_istore_n (lv' := [(3, .int y27), (2, .int y26), (7, .int y29), (0, .ref (gA G 0)), (1, .int y25), (4, .int y28), (5, .int y29), (6, .int y30)]) C dX6_attemptOf_143 (by decide) rfl ?_
              refine ky_iinc (lv' := fun x37 => [(4, .int x37), (3, .int y27), (2, .int y26), (7, .int y29), (0, .ref (gA G 0)), (1, .int y25), (5, .int y29), (6, .int y30)]) C dX6_attemptOf_144 5 rfl (d1 := (1 : Int32)) rfl (by decide) (fun _ => rfl) (fun x37 => ?_)
              refine ky_goto C 8 dX6_attemptOf_147 (by decide) ?_
              exact ky_sub [4, 5, 2, 1, 0] rfl (ih y25 y26 y27 x37 M24 )
            · refine ky_iload C dX6_attemptOf_137 1 rfl ?_
              refine ky_goto C 143 dX6_attemptOf_139 (by decide) ?_
              refine ky_istore_n (lv' := [(3, .int y29), (2, .int y26), (7, .int y29), (0, .ref (gA G 0)), (1, .int y25), (4, .int y28), (5, .int y29), (6, .int y30)]) C dX6_attemptOf_143 (by decide) rfl ?_
              refine ky_iinc (lv' := fun x38 => [(4, .int x38), (3, .int y29), (2, .int y26), (7, .int y29), (0, .ref (gA G 0)), (1, .int y25), (5, .int y29), (6, .int y30)]) C dX6_attemptOf_144 5 rfl (d1 := (1 : Int32)) rfl (by decide) (fun _ => rfl) (fun x38 => ?_)
              refine ky_goto C 8 dX6_attemptOf_147 (by decide) ?_
              exact ky_sub [4, 5, 2, 1, 0] rfl (ih y25 y26 y29 x38 M24 )
          · refine ky_iload C dX6_attemptOf_118 0 rfl ?_
            refine ky_iload_n C dX6_attemptOf_120 4 rfl ?_
            refine ky_icmp_ge C 129 dX6_attemptOf_121 (by decide) ?_ ?_
            · refine ky_iload_n C dX6_attemptOf_129 3 rfl ?_
              refine ky_istore_n (lv' := [(2, .int y26), (7, .int y29), (0, .ref (gA G 0)), (1, .int y25), (3, .int y27), (4, .int y28), (5, .int y29), (6, .int y30)]) C dX6_attemptOf_130 (by decide) rfl ?_
              refine ky_iload C dX6_attemptOf_131 1 rfl ?_
              refine ky_iload_n C dX6_attemptOf_133 4 rfl ?_
              refine ky_icmp_ge C 142 dX6_attemptOf_134 (by decide) ?_ ?_
              · refine ky_iload_n C dX6_attemptOf_142 4 rfl ?_
                refine ky_istore_n (lv' := [(3, .int y27), (2, .int y26), (7, .int y29), (0, .ref (gA G 0)), (1, .int y25), (4, .int y28), (5, .int y29), (6, .int y30)]) C dX6_attemptOf_143 (by decide) rfl ?_
                refine ky_iinc (lv' := fun x39 => [(4, .int x39), (3, .int y27), (2, .int y26), (7, .int y29), (0, .ref (gA G 0)), (1, .int y25), (5, .int y29), (6, .int y30)]) C dX6_attemptOf_144 5 rfl (d1 := (1 : Int32)) rfl (by decide) (fun _ => rfl) (fun x39 => ?_)
                refine ky_goto C 8 dX6_attemptOf_147 (by decide) ?_
                exact ky_sub [4, 5, 2, 1, 0] rfl (ih y25 y26 y27 x39 M24 )
              · refine ky_iload C dX6_attemptOf_137 1 rfl ?_
                refine ky_goto C 143 dX6_attemptOf_139 (by decide) ?_
                refine ky_istore_n (lv' := [(3, .int y29), (2, .int y26), (7, .int y29), (0, .ref (gA G 0)), (1, .int y25), (4, .int y28), (5, .int y29), (6, .int y30)]) C dX6_attemptOf_143 (by decide) rfl ?_
                refine ky_iinc (lv' := fun x40 => [(4, .int x40), (3, .int y29), (2, .int y26), (7, .int y29), (0, .ref (gA G 0)), (1, .int y25), (5, .int y29), (6, .int y30)]) C dX6_attemptOf_144 5 rfl (d1 := (1 : Int32)) rfl (by decide) (fun _ => rfl) (fun x40 => ?_)
                refine ky_goto C 8 dX6_attemptOf_147 (by decide) ?_
                exact ky_sub [4, 5, 2, 1, 0] rfl (ih y25 y26 y29 x40 M24 )
            · refine ky_iload C dX6_attemptOf_124 5 rfl ?_
              refine ky_goto C 130 dX6_attemptOf_126 (by decide) ?_
              refine ky_istore_n (lv' := [(2, .int y28), (7, .int y29), (0, .ref (gA G 0)), (1, .int y25), (3, .int y27), (4, .int y28), (5, .int y29), (6, .int y30)]) C dX6_attemptOf_130 (by decide) rfl ?_
              refine ky_iload C dX6_attemptOf_131 1 rfl ?_
              refine ky_iload_n C dX6_attemptOf_133 4 rfl ?_
              refine ky_icmp_ge C 142 dX6_attemptOf_134 (by decide) ?_ ?_
              · refine ky_iload_n C dX6_attemptOf_142 4 rfl ?_
                refine ky_istore_n (lv' := [(3, .int y27), (2, .int y28), (7, .int y29), (0, .ref (gA G 0)), (1, .int y25), (4, .int y28), (5, .int y29), (6, .int y30)]) C dX6_attemptOf_143 (by decide) rfl ?_
                refine ky_iinc (lv' := fun x41 => [(4, .int x41), (3, .int y27), (2, .int y28), (7, .int y29), (0, .ref (gA G 0)), (1, .int y25), (5, .int y29), (6, .int y30)]) C dX6_attemptOf_144 5 rfl (d1 := (1 : Int32)) rfl (by decide) (fun _ => rfl) (fun x41 => ?_)
                refine ky_goto C 8 dX6_attemptOf_147 (by decide) ?_
                exact ky_sub [4, 5, 2, 1, 0] rfl (ih y25 y28 y27 x41 M24 )
              · refine ky_iload C dX6_attemptOf_137 1 rfl ?_
                refine ky_goto C 143 dX6_attemptOf_139 (by decide) ?_
                refine ky_istore_n (lv' := [(3, .int y29), (2, .int y28), (7, .int y29), (0, .ref (gA G 0)), (1, .int y25), (4, .int y28), (5, .int y29), (6, .int y30)]) C dX6_attemptOf_143 (by decide) rfl ?_
                refine ky_iinc (lv' := fun x42 => [(4, .int x42), (3, .int y29), (2, .int y28), (7, .int y29), (0, .ref (gA G 0)), (1, .int y25), (5, .int y29), (6, .int y30)]) C dX6_attemptOf_144 5 rfl (d1 := (1 : Int32)) rfl (by decide) (fun _ => rfl) (fun x42 => ?_)
                refine ky_goto C 8 dX6_attemptOf_147 (by decide) ?_
                exact ky_sub [4, 5, 2, 1, 0] rfl (ih y25 y28 y29 x42 M24 )
def f_X6_attemptOf (F : Nat) (a1 : Int32) (M : Mem) : Option (Int32 × Mem) := LX6_attemptOf_8 F  F a1 (mI 1) (65 : Int32) (0 : Int32) M
set_option maxRecDepth 100000 in
set_option maxHeartbeats 4000000 in
theorem c_X6_attemptOf {G : KyG} {cy : ClassId} (hG : IsR G cy) (F : Nat)  (a1 : Int32) (M : Mem)  : Ct G yX6_attemptOf (wY yX6_attemptOf cX6_attemptOf 9 (some .int)) rmX6_attemptOf rI [.ref (gA G 0), .int a1] (f_X6_attemptOf F a1 M) M := by
  refine Ct_of cX6_attemptOf 9 (some .int) RX6 hG.2.2.2 (by decide) rfl rfl (Nat.le_of_ble_eq_true rfl) rfl (fun E C => ?_)
  unfold f_X6_attemptOf
  refine ky_iconst C (mI 1) dX6_attemptOf_0 (by decide) ?_
  refine ky_istore_n (lv' := [(2, .int (mI 1)), (0, .ref (gA G 0)), (1, .int a1)]) C dX6_attemptOf_1 (by decide) rfl ?_
  refine ky_bipush C (65 : Int32) dX6_attemptOf_2 (by decide) ?_
  refine ky_istore_n (lv' := [(3, .int (65 : Int32)), (2, .int (mI 1)), (0, .ref (gA G 0)), (1, .int a1)]) C dX6_attemptOf_4 (by decide) rfl ?_
  refine ky_iconst C (0 : Int32) dX6_attemptOf_5 (by decide) ?_
  refine ky_istore (lv' := [(4, .int (0 : Int32)), (3, .int (65 : Int32)), (2, .int (mI 1)), (0, .ref (gA G 0)), (1, .int a1)]) C dX6_attemptOf_6 (by decide) rfl ?_
  exact ky_sub [3, 4, 2, 1, 0] rfl (lX6_attemptOf_8 hG C F   F a1 (mI 1) (65 : Int32) (0 : Int32) M )
def rmX6_attempt : Room := { frames := 2, cells := 0, slots := 0, locals := 52 }
theorem hd_X6_attempt : yX6_attempt.cls = RX6 ∧ yX6_attempt.cls ≠ "java/lang/invoke/MethodHandle" ∧ yX6_attempt.cls ≠ "java/lang/invoke/VarHandle" ∧ (parseMethodDescriptor yX6_attempt.desc).map (fun d => d.parameters.length) = some 1 := ⟨rfl, by decide, by decide, by decide +kernel⟩
def f_X6_attempt (F : Nat) (a1 : Int32) (M : Mem) : Option (Int32 × Mem) := bd (f_X6_isVictim F a1 M) (fun r1 M2 => if r1 = 0 then (some ((mI 101), M2)) else (bd (f_X6_attemptOf F a1 M2) (fun r3 M4 => some (r3, M4))))
set_option maxRecDepth 100000 in
set_option maxHeartbeats 4000000 in
theorem c_X6_attempt {G : KyG} {cy : ClassId} (hG : IsR G cy) (F : Nat)  (a1 : Int32) (M : Mem)  : Ct G yX6_attempt (wY yX6_attempt cX6_attempt 2 (some .int)) rmX6_attempt rI [.ref (gA G 0), .int a1] (f_X6_attempt F a1 M) M := by
  refine Ct_of cX6_attempt 2 (some .int) RX6 hG.2.2.2 (by decide) rfl rfl (Nat.le_of_ble_eq_true rfl) rfl (fun E C => ?_)
  unfold f_X6_attempt
  refine ky_aload_n C dX6_attempt_0 0 rfl ?_
  refine ky_iload_n C dX6_attempt_1 1 rfl ?_
  refine ky_callVi C (c_X6_isVictim hG F a1 M ) (ltR hG) (ceR hG) rfl (wY_goodV tw_3_192 tw_3_194 tw_p11 tw_1_7 tw_3_195) hd_X6_isVictim ⟨rfl, rfl, by decide, by decide⟩ rfl rfl (Nat.le_of_ble_eq_true rfl) dX6_attempt_2 (fun r1 M2 => ?_)
  refine ky_if_eq C 16 dX6_attempt_5 (by decide) ?_ ?_
  · refine ky_bipush C (mI 101) dX6_attempt_16 (by decide) ?_
    exact ky_iret C dX6_attempt_18
  · refine ky_aload_n C dX6_attempt_8 0 rfl ?_
    refine ky_iload_n C dX6_attempt_9 1 rfl ?_
    refine ky_callVi C (c_X6_attemptOf hG F a1 M2 ) (ltR hG) (ceR hG) rfl (wY_goodV tw_4_81 tw_4_83 tw_p28 tw_1_7 tw_4_84) hd_X6_attemptOf ⟨rfl, rfl, by decide, by decide⟩ rfl rfl (Nat.le_of_ble_eq_true rfl) dX6_attempt_10 (fun r3 M4 => ?_)
    refine ky_goto C 18 dX6_attempt_13 (by decide) ?_
    exact ky_iret C dX6_attempt_18
def rmX6_blank : Room := { frames := 0, cells := 0, slots := 0, locals := 0 }
theorem hd_X6_blank : yX6_blank.cls = RX6 ∧ yX6_blank.cls ≠ "java/lang/invoke/MethodHandle" ∧ yX6_blank.cls ≠ "java/lang/invoke/VarHandle" ∧ (parseMethodDescriptor yX6_blank.desc).map (fun d => d.parameters.length) = some 0 := ⟨rfl, by decide, by decide, by decide +kernel⟩
def f_X6_blank (F : Nat)  (M : Mem) : Option (Int32 × Mem) := nm (M.1 0 1) (fun x1 => nm (u2 M 0 1 (0 : Int32)) (fun M2 => some (x1, M2)))
set_option maxRecDepth 100000 in
set_option maxHeartbeats 4000000 in
theorem c_X6_blank {G : KyG} {cy : ClassId} (hG : IsR G cy) (F : Nat)   (M : Mem)  : Ct G yX6_blank (wY yX6_blank cX6_blank 2 (some .int)) rmX6_blank rI [.ref (gA G 0)] (f_X6_blank F  M) M := by
  refine Ct_of cX6_blank 2 (some .int) RX6 hG.2.2.2 (by decide) rfl rfl (Nat.le_of_ble_eq_true rfl) rfl (fun E C => ?_)
  unfold f_X6_blank
  refine ky_aload_n C dX6_blank_0 0 rfl ?_
  refine ky_get C (ltR hG) (ceR hG) rfl inWX6 1 (by decide) (wY_in tw_3_71) rfl rfl dX6_blank_1 ?_
  refine ky_nmi (fun x1 => ?_)
  refine ky_istore_n (lv' := [(1, .int x1), (0, .ref (gA G 0))]) C dX6_blank_4 (by decide) rfl ?_
  refine ky_aload_n C dX6_blank_5 1 rfl ?_
  refine ky_iconst C (0 : Int32) dX6_blank_6 (by decide) ?_
  refine ky_put C (ltR hG) (ceR hG) rfl inWX6 tyX6_ok nmX6 1 (by decide) (wY_in tw_3_71) ⟨rfl, rfl⟩ (tyX6_ok 1 (by decide)) rfl rfl (Nat.le_of_ble_eq_true rfl) rfl dX6_blank_7 (fun M2 => ?_)
  refine ky_iload_n C dX6_blank_10 0 rfl ?_
  exact ky_iret C dX6_blank_11
def rmX6_convict : Room := { frames := 2, cells := 0, slots := 0, locals := 46 }
theorem hd_X6_convict : yX6_convict.cls = RX6 ∧ yX6_convict.cls ≠ "java/lang/invoke/MethodHandle" ∧ yX6_convict.cls ≠ "java/lang/invoke/VarHandle" ∧ (parseMethodDescriptor yX6_convict.desc).map (fun d => d.parameters.length) = some 4 := ⟨rfl, by decide, by decide, by decide +kernel⟩
def f_X6_convict (F : Nat) (a1 : Int32) (a2 : Int32) (a3 : Int32) (a4 : Int32) (M : Mem) : Option (Int32 × Mem) := bd (f_X6_in F a1.toInt64 (0 : Int64) (4 : Int64) M) (fun r1 M2 => if r1 = 0 then (some ((mI 102), M2)) else (bd (f_X6_in F a3.toInt64 (1 : Int64) (9 : Int64) M2) (fun r3 M4 => if r3 = 0 then (some ((mI 102), M4)) else (bd (f_X6_in F a4.toInt64 (0 : Int64) (63 : Int64) M4) (fun r5 M6 => if r5 = 0 then (some ((mI 102), M6)) else (bd (f_X6_isVictim F a2 M6) (fun r7 M8 => if r7 = 0 then (some ((mI 101), M8)) else (if (M8.1 0 8) = (4 : Int32) then (some ((mI 104), M8)) else (gi ((6 : Int32) * (M8.1 0 8)) 24 (nm (u2 M8 4 ((6 : Int32) * (M8.1 0 8)).toNatClampNeg a1) (fun M9 => gi (((6 : Int32) * (M9.1 0 8)) + (1 : Int32)) 24 (nm (u2 M9 4 (((6 : Int32) * (M9.1 0 8)) + (1 : Int32)).toNatClampNeg a2) (fun M11 => gi (((6 : Int32) * (M11.1 0 8)) + (2 : Int32)) 24 (nm (u2 M11 4 (((6 : Int32) * (M11.1 0 8)) + (2 : Int32)).toNatClampNeg a3) (fun M13 => gi (((6 : Int32) * (M13.1 0 8)) + (3 : Int32)) 24 (nm (u2 M13 4 (((6 : Int32) * (M13.1 0 8)) + (3 : Int32)).toNatClampNeg a4) (fun M15 => bd (f_X6_aDay F a1 M15) (fun r17 M18 => gi (((6 : Int32) * (M15.1 0 8)) + (4 : Int32)) 24 (nm (u2 M18 4 (((6 : Int32) * (M15.1 0 8)) + (4 : Int32)).toNatClampNeg r17) (fun M19 => gi (((6 : Int32) * (M19.1 0 8)) + (5 : Int32)) 24 (nm (u2 M19 4 (((6 : Int32) * (M19.1 0 8)) + (5 : Int32)).toNatClampNeg (0 : Int32)) (fun M21 => nm ((M21.1 0 8) + (1 : Int32)) (fun x23 => nm (u2 M21 0 8 x23) (fun M24 => some ((M24.1 0 8) - (1 : Int32), M24)))))))))))))))))))))))))
set_option maxRecDepth 100000 in
set_option maxHeartbeats 4000000 in
theorem c_X6_convict {G : KyG} {cy : ClassId} (hG : IsR G cy) (F : Nat)  (a1 : Int32) (a2 : Int32) (a3 : Int32) (a4 : Int32) (M : Mem)  : Ct G yX6_convict (wY yX6_convict cX6_convict 5 (some .int)) rmX6_convict rI [.ref (gA G 0), .int a1, .int a2, .int a3, .int a4] (f_X6_convict F a1 a2 a3 a4 M) M := by
  refine Ct_of cX6_convict 5 (some .int) RX6 hG.2.2.2 (by decide) rfl rfl (Nat.le_of_ble_eq_true rfl) rfl (fun E C => ?_)
  unfold f_X6_convict
  refine ky_iload_n C dX6_convict_0 1 rfl ?_
  refine ky_i2l C dX6_convict_1 ?_
  refine ky_lconst C (0 : Int64) dX6_convict_2 (by decide) ?_
  refine ky_ldc2 C (4 : Int64) (wY_in tw_3_205) dX6_convict_3 ?_
  refine ky_callSi C (c_X6_in hG F a1.toInt64 (0 : Int64) (4 : Int64) M ) (wY_goodS tw_3_157 tw_3_158 tw_1_7 tw_3_159) hd_X6_in ⟨rfl, rfl, by decide, by decide⟩ rfl rfl (Nat.le_of_ble_eq_true rfl) dX6_convict_6 (fun r1 M2 => ?_)
  refine ky_if_eq C 37 dX6_convict_9 (by decide) ?_ ?_
  · refine ky_bipush C (mI 102) dX6_convict_37 (by decide) ?_
    exact ky_iret C dX6_convict_39
  · refine ky_iload_n C dX6_convict_12 3 rfl ?_
    refine ky_i2l C dX6_convict_13 ?_
    refine ky_lconst C (1 : Int64) dX6_convict_14 (by decide) ?_
    refine ky_ldc2 C (9 : Int64) (wY_in tw_3_175) dX6_convict_15 ?_
    refine ky_callSi C (c_X6_in hG F a3.toInt64 (1 : Int64) (9 : Int64) M2 ) (wY_goodS tw_3_157 tw_3_158 tw_1_7 tw_3_159) hd_X6_in ⟨rfl, rfl, by decide, by decide⟩ rfl rfl (Nat.le_of_ble_eq_true rfl) dX6_convict_18 (fun r3 M4 => ?_)
    refine ky_if_eq C 37 dX6_convict_21 (by decide) ?_ ?_
    · refine ky_bipush C (mI 102) dX6_convict_37 (by decide) ?_
      exact ky_iret C dX6_convict_39
    · refine ky_iload C dX6_convict_24 4 rfl ?_
      refine ky_i2l C dX6_convict_26 ?_
      refine ky_lconst C (0 : Int64) dX6_convict_27 (by decide) ?_
      refine ky_ldc2 C (63 : Int64) (wY_in tw_3_206) dX6_convict_28 ?_
      refine ky_callSi C (c_X6_in hG F a4.toInt64 (0 : Int64) (63 : Int64) M4 ) (wY_goodS tw_3_157 tw_3_158 tw_1_7 tw_3_159) hd_X6_in ⟨rfl, rfl, by decide, by decide⟩ rfl rfl (Nat.le_of_ble_eq_true rfl) dX6_convict_31 (fun r5 M6 => ?_)
      refine ky_if_ne C 40 dX6_convict_34 (by decide) ?_ ?_
      · refine ky_bipush C (mI 102) dX6_convict_37 (by decide) ?_
        exact ky_iret C dX6_convict_39
      · refine ky_aload_n C dX6_convict_40 0 rfl ?_
        refine ky_iload_n C dX6_convict_41 2 rfl ?_
        refine ky_callVi C (c_X6_isVictim hG F a2 M6 ) (ltR hG) (ceR hG) rfl (wY_goodV tw_3_192 tw_3_194 tw_p11 tw_1_7 tw_3_195) hd_X6_isVictim ⟨rfl, rfl, by decide, by decide⟩ rfl rfl (Nat.le_of_ble_eq_true rfl) dX6_convict_42 (fun r7 M8 => ?_)
        refine ky_if_ne C 51 dX6_convict_45 (by decide) ?_ ?_
        · refine ky_bipush C (mI 101) dX6_convict_48 (by decide) ?_
          exact ky_iret C dX6_convict_50
        · refine ky_aload_n C dX6_convict_51 0 rfl ?_
          refine ky_get C (ltR hG) (ceR hG) rfl inWX6 8 (by decide) (wY_in tw_3_78) rfl rfl dX6_convict_52 ?_
          refine ky_iconst C (4 : Int32) dX6_convict_55 (by decide) ?_
          refine ky_icmp_ne C 62 dX6_convict_56 (by decide) ?_ ?_
          · refine ky_bipush C (mI 104) dX6_convict_59 (by decide) ?_
            exact ky_iret C dX6_convict_61
          · refine ky_aload_n C dX6_convict_62 0 rfl ?_
            refine ky_get C (ltR hG) (ceR hG) rfl inWX6 9 (by decide) (wY_in tw_3_79) rfl rfl dX6_convict_63 ?_
            refine ky_bipush C (6 : Int32) dX6_convict_66 (by decide) ?_
            refine ky_aload_n C dX6_convict_68 0 rfl ?_
            refine ky_get C (ltR hG) (ceR hG) rfl inWX6 8 (by decide) (wY_in tw_3_78) rfl rfl dX6_convict_69 ?_
            refine ky_imul C dX6_convict_72 ?_
            refine ky_iload_n C dX6_convict_73 1 rfl ?_
            refine ky_iast C (ltA hG ar4) (ceA4 hG) (tR0 hG) dX6_convict_74 (fun M9 hx10 => ?_)
            refine ky_aload_n C dX6_convict_75 0 rfl ?_
            refine ky_get C (ltR hG) (ceR hG) rfl inWX6 9 (by decide) (wY_in tw_3_79) rfl rfl dX6_convict_76 ?_
            refine ky_bipush C (6 : Int32) dX6_convict_79 (by decide) ?_
            refine ky_aload_n C dX6_convict_81 0 rfl ?_
            refine ky_get C (ltR hG) (ceR hG) rfl inWX6 8 (by decide) (wY_in tw_3_78) rfl rfl dX6_convict_82 ?_
            refine ky_imul C dX6_convict_85 ?_
            refine ky_iconst C (1 : Int32) dX6_convict_86 (by decide) ?_
            refine ky_iadd C dX6_convict_87 ?_
            refine ky_iload_n C dX6_convict_88 2 rfl ?_
            refine ky_iast C (ltA hG ar4) (ceA4 hG) (tR0 hG) dX6_convict_89 (fun M11 hx12 => ?_)
            refine ky_aload_n C dX6_convict_90 0 rfl ?_
            refine ky_get C (ltR hG) (ceR hG) rfl inWX6 9 (by decide) (wY_in tw_3_79) rfl rfl dX6_convict_91 ?_
            refine ky_bipush C (6 : Int32) dX6_convict_94 (by decide) ?_
            refine ky_aload_n C dX6_convict_96 0 rfl ?_
            refine ky_get C (ltR hG) (ceR hG) rfl inWX6 8 (by decide) (wY_in tw_3_78) rfl rfl dX6_convict_97 ?_
            refine ky_imul C dX6_convict_100 ?_
            refine ky_iconst C (2 : Int32) dX6_convict_101 (by decide) ?_
            refine ky_iadd C dX6_convict_102 ?_
            refine ky_iload_n C dX6_convict_103 3 rfl ?_
            refine ky_iast C (ltA hG ar4) (ceA4 hG) (tR0 hG) dX6_convict_104 (fun M13 hx14 => ?_)
            refine ky_aload_n C dX6_convict_105 0 rfl ?_
            refine ky_get C (ltR hG) (ceR hG) rfl inWX6 9 (by decide) (wY_in tw_3_79) rfl rfl dX6_convict_106 ?_
            refine ky_bipush C (6 : Int32) dX6_convict_109 (by decide) ?_
            refine ky_aload_n C dX6_convict_111 0 rfl ?_
            refine ky_get C (ltR hG) (ceR hG) rfl inWX6 8 (by decide) (wY_in tw_3_78) rfl rfl dX6_convict_112 ?_
            refine ky_imul C dX6_convict_115 ?_
            refine ky_iconst C (3 : Int32) dX6_convict_116 (by decide) ?_
            refine ky_iadd C dX6_convict_117 ?_
            refine ky_iload C dX6_convict_118 4 rfl ?_
            refine ky_iast C (ltA hG ar4) (ceA4 hG) (tR0 hG) dX6_convict_120 (fun M15 hx16 => ?_)
            refine ky_aload_n C dX6_convict_121 0 rfl ?_
            refine ky_get C (ltR hG) (ceR hG) rfl inWX6 9 (by decide) (wY_in tw_3_79) rfl rfl dX6_convict_122 ?_
            refine ky_bipush C (6 : Int32) dX6_convict_125 (by decide) ?_
            refine ky_aload_n C dX6_convict_127 0 rfl ?_
            refine ky_get C (ltR hG) (ceR hG) rfl inWX6 8 (by decide) (wY_in tw_3_78) rfl rfl dX6_convict_128 ?_
            refine ky_imul C dX6_convict_131 ?_
            refine ky_iconst C (4 : Int32) dX6_convict_132 (by decide) ?_
            refine ky_iadd C dX6_convict_133 ?_
            refine ky_iload_n C dX6_convict_134 1 rfl ?_
            refine ky_callSi C (c_X6_aDay hG F a1 M15 ) (wY_goodS tw_3_207 tw_3_208 tw_1_7 tw_3_209) hd_X6_aDay ⟨rfl, rfl, by decide, by decide⟩ rfl rfl (Nat.le_of_ble_eq_true rfl) dX6_convict_135 (fun r17 M18 => ?_)
            refine ky_iast C (ltA hG ar4) (ceA4 hG) (tR0 hG) dX6_convict_138 (fun M19 hx20 => ?_)
            refine ky_aload_n C dX6_convict_139 0 rfl ?_
            refine ky_get C (ltR hG) (ceR hG) rfl inWX6 9 (by decide) (wY_in tw_3_79) rfl rfl dX6_convict_140 ?_
            refine ky_bipush C (6 : Int32) dX6_convict_143 (by decide) ?_
            refine ky_aload_n C dX6_convict_145 0 rfl ?_
            refine ky_get C (ltR hG) (ceR hG) rfl inWX6 8 (by decide) (wY_in tw_3_78) rfl rfl dX6_convict_146 ?_
            refine ky_imul C dX6_convict_149 ?_
            refine ky_iconst C (5 : Int32) dX6_convict_150 (by decide) ?_
            refine ky_iadd C dX6_convict_151 ?_
            refine ky_iconst C (0 : Int32) dX6_convict_152 (by decide) ?_
            refine ky_iast C (ltA hG ar4) (ceA4 hG) (tR0 hG) dX6_convict_153 (fun M21 hx22 => ?_)
            refine ky_aload_n C dX6_convict_154 0 rfl ?_
            refine ky_dup C dX6_convict_155 rfl ?_
            refine ky_get C (ltR hG) (ceR hG) rfl inWX6 8 (by decide) (wY_in tw_3_78) rfl rfl dX6_convict_156 ?_
            refine ky_iconst C (1 : Int32) dX6_convict_159 (by decide) ?_
            refine ky_iadd C dX6_convict_160 ?_
            refine ky_nmi (fun x23 => ?_)
            refine ky_put C (ltR hG) (ceR hG) rfl inWX6 tyX6_ok nmX6 8 (by decide) (wY_in tw_3_78) ⟨rfl, rfl⟩ (tyX6_ok 8 (by decide)) rfl rfl (Nat.le_of_ble_eq_true rfl) rfl dX6_convict_161 (fun M24 => ?_)
            refine ky_aload_n C dX6_convict_164 0 rfl ?_
            refine ky_get C (ltR hG) (ceR hG) rfl inWX6 8 (by decide) (wY_in tw_3_78) rfl rfl dX6_convict_165 ?_
            refine ky_iconst C (1 : Int32) dX6_convict_168 (by decide) ?_
            refine ky_isub C dX6_convict_169 ?_
            exact ky_iret C dX6_convict_170
def rmX6_copy : Room := { frames := 0, cells := 0, slots := 0, locals := 0 }
theorem hd_X6_copy : yX6_copy.cls ≠ "java/lang/invoke/MethodHandle" ∧ yX6_copy.cls ≠ "java/lang/invoke/VarHandle" ∧ (parseMethodDescriptor yX6_copy.desc).map (fun d => d.parameters.length) = some 2 := ⟨by decide, by decide, by decide +kernel⟩
def LX6_copy_2 (F : Nat)  : Nat → Nat → Nat → Int32 → Mem → Option (Unit × Mem)
  | 0, _, _, _, _ => none
  | n + 1, kv0, kv1, xv2, M => if (Int32.ofNat (lenR kv0)) ≤ xv2 then (some ((), M)) else (gi xv2 (lenR kv0) (nm (M.1 kv0 xv2.toNatClampNeg) (fun x2 => gi xv2 (lenR kv1) (nm (u2 M kv1 xv2.toNatClampNeg x2) (fun M3 => nm (xv2 + (1 : Int32)) (fun x5 => LX6_copy_2 F n kv0 kv1 x5 M3))))))
theorem LX6_copy_2_s (F : Nat)  (n : Nat) (kv0 : Nat) (kv1 : Nat) (xv2 : Int32) (M : Mem) : LX6_copy_2 F (n + 1) kv0 kv1 xv2 M = (if (Int32.ofNat (lenR kv0)) ≤ xv2 then (some ((), M)) else (gi xv2 (lenR kv0) (nm (M.1 kv0 xv2.toNatClampNeg) (fun x2 => gi xv2 (lenR kv1) (nm (u2 M kv1 xv2.toNatClampNeg x2) (fun M3 => nm (xv2 + (1 : Int32)) (fun x5 => LX6_copy_2 F n kv0 kv1 x5 M3))))))) := rfl
set_option maxRecDepth 100000 in
set_option maxHeartbeats 4000000 in
theorem lX6_copy_2 {G : KyG} {cy : ClassId} (hG : IsR G cy) {E : KyE} (C : Cx G E cX6_copy 3 RX6 (wY yX6_copy cX6_copy 3 none) none rmX6_copy) (F : Nat)   : ∀ (n : Nat) (kv0 : Nat) (kv1 : Nat) (xv2 : Int32) (M : Mem) (hkv0 : isAr kv0) (hkv1 : isAr kv1), Wo G E 3 rV (LX6_copy_2 F n kv0 kv1 xv2 M) M 2 [(0, .ref (gA G kv0)), (1, .ref (gA G kv1)), (2, .int xv2)] [] := by
  intro n
  induction n with
  | zero => intro kv0 kv1 xv2 M hkv0 hkv1; exact ky_none
  | succ n ih =>
    intro kv0 kv1 xv2 M hkv0 hkv1
    rw [LX6_copy_2_s]
    refine ky_iload_n C dX6_copy_2 2 rfl ?_
    refine ky_aload_n C dX6_copy_3 0 rfl ?_
    refine ky_alen C (Int32.ofNat (lenR kv0)) (ltA hG hkv0) (ceA hG hkv0) (tR0 hG) rfl dX6_copy_4 ?_
    refine ky_icmp_ge C 20 dX6_copy_5 (by decide) ?_ ?_
    · exact ky_vret C dX6_copy_20
    · refine ky_aload_n C dX6_copy_8 1 rfl ?_
      refine ky_iload_n C dX6_copy_9 2 rfl ?_
      refine ky_aload_n C dX6_copy_10 0 rfl ?_
      refine ky_iload_n C dX6_copy_11 2 rfl ?_
      refine ky_iald C (ltA hG hkv0) (ceA hG hkv0) (tR0 hG) dX6_copy_12 (fun hx1 => ?_)
      refine ky_nmi (fun x2 => ?_)
      refine ky_iast C (ltA hG hkv1) (ceA hG hkv1) (tR0 hG) dX6_copy_13 (fun M3 hx4 => ?_)
      refine ky_iinc (lv' := fun x5 => [(2, .int x5), (0, .ref (gA G kv0)), (1, .ref (gA G kv1))]) C dX6_copy_14 2 rfl (d1 := (1 : Int32)) rfl (by decide) (fun _ => rfl) (fun x5 => ?_)
      refine ky_goto C 2 dX6_copy_17 (by decide) ?_
      exact ky_sub [1, 2, 0] rfl (ih kv0 kv1 x5 M3 hkv0 hkv1)
def f_X6_copy (F : Nat) (k0 : Nat) (k1 : Nat) (M : Mem) : Option (Unit × Mem) := LX6_copy_2 F  F k0 k1 (0 : Int32) M
set_option maxRecDepth 100000 in
set_option maxHeartbeats 4000000 in
theorem c_X6_copy {G : KyG} {cy : ClassId} (hG : IsR G cy) (F : Nat)  (k0 : Nat) (k1 : Nat) (M : Mem) (hk0 : isAr k0) (hk1 : isAr k1) : Ct G yX6_copy (wY yX6_copy cX6_copy 3 none) rmX6_copy rV [.ref (gA G k0), .ref (gA G k1)] (f_X6_copy F k0 k1 M) M := by
  refine Ct_of cX6_copy 3 none RX6 hG.2.2.2 (by decide) rfl rfl (Nat.le_of_ble_eq_true rfl) rfl (fun E C => ?_)
  unfold f_X6_copy
  refine ky_iconst C (0 : Int32) dX6_copy_0 (by decide) ?_
  refine ky_istore_n (lv' := [(2, .int (0 : Int32)), (0, .ref (gA G k0)), (1, .ref (gA G k1))]) C dX6_copy_1 (by decide) rfl ?_
  exact ky_sub [1, 2, 0] rfl (lX6_copy_2 hG C F   F k0 k1 (0 : Int32) M hk0 hk1)
def rmX6_trueAll : Room := { frames := 1, cells := 0, slots := 0, locals := 22 }
theorem hd_X6_trueAll : yX6_trueAll.cls = RX6 ∧ yX6_trueAll.cls ≠ "java/lang/invoke/MethodHandle" ∧ yX6_trueAll.cls ≠ "java/lang/invoke/VarHandle" ∧ (parseMethodDescriptor yX6_trueAll.desc).map (fun d => d.parameters.length) = some 0 := ⟨rfl, by decide, by decide, by decide +kernel⟩
def LX6_trueAll_4 (F : Nat)  : Nat → Int32 → Int32 → Mem → Option (Int32 × Mem)
  | 0, _, _, _ => none
  | n + 1, xv1, xv2, M => if (3 : Int32) ≤ xv2 then (some (xv1, M)) else (gi xv2 3 (bd (f_X6_ones F (M.1 2 xv2.toNatClampNeg) M) (fun r2 M3 => nm (xv1 + r2) (fun x4 => nm (xv2 + (1 : Int32)) (fun x5 => LX6_trueAll_4 F n x4 x5 M3)))))
theorem LX6_trueAll_4_s (F : Nat)  (n : Nat) (xv1 : Int32) (xv2 : Int32) (M : Mem) : LX6_trueAll_4 F (n + 1) xv1 xv2 M = (if (3 : Int32) ≤ xv2 then (some (xv1, M)) else (gi xv2 3 (bd (f_X6_ones F (M.1 2 xv2.toNatClampNeg) M) (fun r2 M3 => nm (xv1 + r2) (fun x4 => nm (xv2 + (1 : Int32)) (fun x5 => LX6_trueAll_4 F n x4 x5 M3)))))) := rfl
set_option maxRecDepth 100000 in
set_option maxHeartbeats 4000000 in
theorem lX6_trueAll_4 {G : KyG} {cy : ClassId} (hG : IsR G cy) {E : KyE} (C : Cx G E cX6_trueAll 3 RX6 (wY yX6_trueAll cX6_trueAll 3 (some .int)) (some .int) rmX6_trueAll) (F : Nat)   : ∀ (n : Nat) (xv1 : Int32) (xv2 : Int32) (M : Mem) , Wo G E 3 rI (LX6_trueAll_4 F n xv1 xv2 M) M 4 [(0, .ref (gA G 0)), (1, .int xv1), (2, .int xv2)] [] := by
  intro n
  induction n with
  | zero => intro xv1 xv2 M ; exact ky_none
  | succ n ih =>
    intro xv1 xv2 M 
    rw [LX6_trueAll_4_s]
    refine ky_iload_n C dX6_trueAll_4 2 rfl ?_
    refine ky_iconst C (3 : Int32) dX6_trueAll_5 (by decide) ?_
    refine ky_icmp_ge C 27 dX6_trueAll_6 (by decide) ?_ ?_
    · refine ky_iload_n C dX6_trueAll_27 1 rfl ?_
      exact ky_iret C dX6_trueAll_28
    · refine ky_iload_n C dX6_trueAll_9 1 rfl ?_
      refine ky_aload_n C dX6_trueAll_10 0 rfl ?_
      refine ky_get C (ltR hG) (ceR hG) rfl inWX6 6 (by decide) (wY_in tw_3_76) rfl rfl dX6_trueAll_11 ?_
      refine ky_iload_n C dX6_trueAll_14 2 rfl ?_
      refine ky_iald C (ltA hG ar2) (ceA2 hG) (tR0 hG) dX6_trueAll_15 (fun hx1 => ?_)
      refine ky_callSi C (c_X6_ones hG F (M.1 2 xv2.toNatClampNeg) M ) (wY_goodS tw_3_185 tw_3_186 tw_1_7 tw_3_187) hd_X6_ones ⟨rfl, rfl, by decide, by decide⟩ rfl rfl (Nat.le_of_ble_eq_true rfl) dX6_trueAll_16 (fun r2 M3 => ?_)
      refine ky_iadd C dX6_trueAll_19 ?_
      refine ky_nmi (fun x4 => ?_)
      refine ky_istore_n (lv' := [(1, .int x4), (0, .ref (gA G 0)), (2, .int xv2)]) C dX6_trueAll_20 (by decide) rfl ?_
      refine ky_iinc (lv' := fun x5 => [(2, .int x5), (1, .int x4), (0, .ref (gA G 0))]) C dX6_trueAll_21 2 rfl (d1 := (1 : Int32)) rfl (by decide) (fun _ => rfl) (fun x5 => ?_)
      refine ky_goto C 4 dX6_trueAll_24 (by decide) ?_
      exact ky_sub [2, 1, 0] rfl (ih x4 x5 M3 )
def f_X6_trueAll (F : Nat)  (M : Mem) : Option (Int32 × Mem) := LX6_trueAll_4 F  F (0 : Int32) (0 : Int32) M
set_option maxRecDepth 100000 in
set_option maxHeartbeats 4000000 in
theorem c_X6_trueAll {G : KyG} {cy : ClassId} (hG : IsR G cy) (F : Nat)   (M : Mem)  : Ct G yX6_trueAll (wY yX6_trueAll cX6_trueAll 3 (some .int)) rmX6_trueAll rI [.ref (gA G 0)] (f_X6_trueAll F  M) M := by
  refine Ct_of cX6_trueAll 3 (some .int) RX6 hG.2.2.2 (by decide) rfl rfl (Nat.le_of_ble_eq_true rfl) rfl (fun E C => ?_)
  unfold f_X6_trueAll
  refine ky_iconst C (0 : Int32) dX6_trueAll_0 (by decide) ?_
  refine ky_istore_n (lv' := [(1, .int (0 : Int32)), (0, .ref (gA G 0))]) C dX6_trueAll_1 (by decide) rfl ?_
  refine ky_iconst C (0 : Int32) dX6_trueAll_2 (by decide) ?_
  refine ky_istore_n (lv' := [(2, .int (0 : Int32)), (1, .int (0 : Int32)), (0, .ref (gA G 0))]) C dX6_trueAll_3 (by decide) rfl ?_
  exact ky_sub [2, 1, 0] rfl (lX6_trueAll_4 hG C F   F (0 : Int32) (0 : Int32) M )
def rmX6_paidMany : Room := { frames := 0, cells := 0, slots := 0, locals := 0 }
theorem hd_X6_paidMany : yX6_paidMany.cls = RX6 ∧ yX6_paidMany.cls ≠ "java/lang/invoke/MethodHandle" ∧ yX6_paidMany.cls ≠ "java/lang/invoke/VarHandle" ∧ (parseMethodDescriptor yX6_paidMany.desc).map (fun d => d.parameters.length) = some 0 := ⟨rfl, by decide, by decide, by decide +kernel⟩
def LX6_paidMany_4 (F : Nat)  : Nat → Int32 → Int32 → Mem → Option (Int32 × Mem)
  | 0, _, _, _ => none
  | n + 1, xv1, xv2, M => if (M.1 0 8) ≤ xv2 then (some (xv1, M)) else (gi (((6 : Int32) * xv2) + (2 : Int32)) 24 (if (M.1 4 (((6 : Int32) * xv2) + (2 : Int32)).toNatClampNeg) = 0 then (nm (xv1 + (1 : Int32)) (fun x4 => nm (xv2 + (1 : Int32)) (fun x5 => LX6_paidMany_4 F n x4 x5 M))) else (nm (xv1 + (0 : Int32)) (fun x2 => nm (xv2 + (1 : Int32)) (fun x3 => LX6_paidMany_4 F n x2 x3 M)))))
theorem LX6_paidMany_4_s (F : Nat)  (n : Nat) (xv1 : Int32) (xv2 : Int32) (M : Mem) : LX6_paidMany_4 F (n + 1) xv1 xv2 M = (if (M.1 0 8) ≤ xv2 then (some (xv1, M)) else (gi (((6 : Int32) * xv2) + (2 : Int32)) 24 (if (M.1 4 (((6 : Int32) * xv2) + (2 : Int32)).toNatClampNeg) = 0 then (nm (xv1 + (1 : Int32)) (fun x4 => nm (xv2 + (1 : Int32)) (fun x5 => LX6_paidMany_4 F n x4 x5 M))) else (nm (xv1 + (0 : Int32)) (fun x2 => nm (xv2 + (1 : Int32)) (fun x3 => LX6_paidMany_4 F n x2 x3 M)))))) := rfl
set_option maxRecDepth 100000 in
set_option maxHeartbeats 4000000 in
theorem lX6_paidMany_4 {G : KyG} {cy : ClassId} (hG : IsR G cy) {E : KyE} (C : Cx G E cX6_paidMany 3 RX6 (wY yX6_paidMany cX6_paidMany 3 (some .int)) (some .int) rmX6_paidMany) (F : Nat)   : ∀ (n : Nat) (xv1 : Int32) (xv2 : Int32) (M : Mem) , Wo G E 3 rI (LX6_paidMany_4 F n xv1 xv2 M) M 4 [(0, .ref (gA G 0)), (1, .int xv1), (2, .int xv2)] [] := by
  intro n
  induction n with
  | zero => intro xv1 xv2 M ; exact ky_none
  | succ n ih =>
    intro xv1 xv2 M 
    rw [LX6_paidMany_4_s]
    refine ky_iload_n C dX6_paidMany_4 2 rfl ?_
    refine ky_aload_n C dX6_paidMany_5 0 rfl ?_
    refine ky_get C (ltR hG) (ceR hG) rfl inWX6 8 (by decide) (wY_in tw_3_78) rfl rfl dX6_paidMany_6 ?_
    refine ky_icmp_ge C 40 dX6_paidMany_9 (by decide) ?_ ?_
    · refine ky_iload_n C dX6_paidMany_40 1 rfl ?_
      exact ky_iret C dX6_paidMany_41
    · refine ky_iload_n C dX6_paidMany_12 1 rfl ?_
      refine ky_aload_n C dX6_paidMany_13 0 rfl ?_
      refine ky_get C (ltR hG) (ceR hG) rfl inWX6 9 (by decide) (wY_in tw_3_79) rfl rfl dX6_paidMany_14 ?_
      refine ky_bipush C (6 : Int32) dX6_paidMany_17 (by decide) ?_
      refine ky_iload_n C dX6_paidMany_19 2 rfl ?_
      refine ky_imul C dX6_paidMany_20 ?_
      refine ky_iconst C (2 : Int32) dX6_paidMany_21 (by decide) ?_
      refine ky_iadd C dX6_paidMany_22 ?_
      refine ky_iald C (ltA hG ar4) (ceA4 hG) (tR0 hG) dX6_paidMany_23 (fun hx1 => ?_)
      refine ky_if_ne C 31 dX6_paidMany_24 (by decide) ?_ ?_
      · refine ky_iconst C (1 : Int32) dX6_paidMany_27 (by decide) ?_
        refine ky_goto C 32 dX6_paidMany_28 (by decide) ?_
        refine ky_iadd C dX6_paidMany_32 ?_
        refine ky_nmi (fun x4 => ?_)
        refine ky_istore_n (lv' := [(1, .int x4), (0, .ref (gA G 0)), (2, .int xv2)]) C dX6_paidMany_33 (by decide) rfl ?_
        refine ky_iinc (lv' := fun x5 => [(2, .int x5), (1, .int x4), (0, .ref (gA G 0))]) C dX6_paidMany_34 2 rfl (d1 := (1 : Int32)) rfl (by decide) (fun _ => rfl) (fun x5 => ?_)
        refine ky_goto C 4 dX6_paidMany_37 (by decide) ?_
        exact ky_sub [2, 1, 0] rfl (ih x4 x5 M )
      · refine ky_iconst C (0 : Int32) dX6_paidMany_31 (by decide) ?_
        refine ky_iadd C dX6_paidMany_32 ?_
        refine ky_nmi (fun x2 => ?_)
        refine ky_istore_n (lv' := [(1, .int x2), (0, .ref (gA G 0)), (2, .int xv2)]) C dX6_paidMany_33 (by decide) rfl ?_
        refine ky_iinc (lv' := fun x3 => [(2, .int x3), (1, .int x2), (0, .ref (gA G 0))]) C dX6_paidMany_34 2 rfl (d1 := (1 : Int32)) rfl (by decide) (fun _ => rfl) (fun x3 => ?_)
        refine ky_goto C 4 dX6_paidMany_37 (by decide) ?_
        exact ky_sub [2, 1, 0] rfl (ih x2 x3 M )
def f_X6_paidMany (F : Nat)  (M : Mem) : Option (Int32 × Mem) := LX6_paidMany_4 F  F (0 : Int32) (0 : Int32) M
set_option maxRecDepth 100000 in
set_option maxHeartbeats 4000000 in
theorem c_X6_paidMany {G : KyG} {cy : ClassId} (hG : IsR G cy) (F : Nat)   (M : Mem)  : Ct G yX6_paidMany (wY yX6_paidMany cX6_paidMany 3 (some .int)) rmX6_paidMany rI [.ref (gA G 0)] (f_X6_paidMany F  M) M := by
  refine Ct_of cX6_paidMany 3 (some .int) RX6 hG.2.2.2 (by decide) rfl rfl (Nat.le_of_ble_eq_true rfl) rfl (fun E C => ?_)
  unfold f_X6_paidMany
  refine ky_iconst C (0 : Int32) dX6_paidMany_0 (by decide) ?_
  refine ky_istore_n (lv' := [(1, .int (0 : Int32)), (0, .ref (gA G 0))]) C dX6_paidMany_1 (by decide) rfl ?_
  refine ky_iconst C (0 : Int32) dX6_paidMany_2 (by decide) ?_
  refine ky_istore_n (lv' := [(2, .int (0 : Int32)), (1, .int (0 : Int32)), (0, .ref (gA G 0))]) C dX6_paidMany_3 (by decide) rfl ?_
  exact ky_sub [2, 1, 0] rfl (lX6_paidMany_4 hG C F   F (0 : Int32) (0 : Int32) M )
def rmX6_finesAll : Room := { frames := 0, cells := 0, slots := 0, locals := 0 }
theorem hd_X6_finesAll : yX6_finesAll.cls = RX6 ∧ yX6_finesAll.cls ≠ "java/lang/invoke/MethodHandle" ∧ yX6_finesAll.cls ≠ "java/lang/invoke/VarHandle" ∧ (parseMethodDescriptor yX6_finesAll.desc).map (fun d => d.parameters.length) = some 0 := ⟨rfl, by decide, by decide, by decide +kernel⟩
def LX6_finesAll_4 (F : Nat)  : Nat → Int32 → Int32 → Mem → Option (Int32 × Mem)
  | 0, _, _, _ => none
  | n + 1, xv1, xv2, M => if (M.1 0 8) ≤ xv2 then (some (xv1, M)) else (gi (((6 : Int32) * xv2) + (2 : Int32)) 24 (nm (xv1 + (M.1 4 (((6 : Int32) * xv2) + (2 : Int32)).toNatClampNeg)) (fun x2 => nm (xv2 + (1 : Int32)) (fun x3 => LX6_finesAll_4 F n x2 x3 M))))
theorem LX6_finesAll_4_s (F : Nat)  (n : Nat) (xv1 : Int32) (xv2 : Int32) (M : Mem) : LX6_finesAll_4 F (n + 1) xv1 xv2 M = (if (M.1 0 8) ≤ xv2 then (some (xv1, M)) else (gi (((6 : Int32) * xv2) + (2 : Int32)) 24 (nm (xv1 + (M.1 4 (((6 : Int32) * xv2) + (2 : Int32)).toNatClampNeg)) (fun x2 => nm (xv2 + (1 : Int32)) (fun x3 => LX6_finesAll_4 F n x2 x3 M))))) := rfl
set_option maxRecDepth 100000 in
set_option maxHeartbeats 4000000 in
theorem lX6_finesAll_4 {G : KyG} {cy : ClassId} (hG : IsR G cy) {E : KyE} (C : Cx G E cX6_finesAll 3 RX6 (wY yX6_finesAll cX6_finesAll 3 (some .int)) (some .int) rmX6_finesAll) (F : Nat)   : ∀ (n : Nat) (xv1 : Int32) (xv2 : Int32) (M : Mem) , Wo G E 3 rI (LX6_finesAll_4 F n xv1 xv2 M) M 4 [(0, .ref (gA G 0)), (1, .int xv1), (2, .int xv2)] [] := by
  intro n
  induction n with
  | zero => intro xv1 xv2 M ; exact ky_none
  | succ n ih =>
    intro xv1 xv2 M 
    rw [LX6_finesAll_4_s]
    refine ky_iload_n C dX6_finesAll_4 2 rfl ?_
    refine ky_aload_n C dX6_finesAll_5 0 rfl ?_
    refine ky_get C (ltR hG) (ceR hG) rfl inWX6 8 (by decide) (wY_in tw_3_78) rfl rfl dX6_finesAll_6 ?_
    refine ky_icmp_ge C 32 dX6_finesAll_9 (by decide) ?_ ?_
    · refine ky_iload_n C dX6_finesAll_32 1 rfl ?_
      exact ky_iret C dX6_finesAll_33
    · refine ky_iload_n C dX6_finesAll_12 1 rfl ?_
      refine ky_aload_n C dX6_finesAll_13 0 rfl ?_
      refine ky_get C (ltR hG) (ceR hG) rfl inWX6 9 (by decide) (wY_in tw_3_79) rfl rfl dX6_finesAll_14 ?_
      refine ky_bipush C (6 : Int32) dX6_finesAll_17 (by decide) ?_
      refine ky_iload_n C dX6_finesAll_19 2 rfl ?_
      refine ky_imul C dX6_finesAll_20 ?_
      refine ky_iconst C (2 : Int32) dX6_finesAll_21 (by decide) ?_
      refine ky_iadd C dX6_finesAll_22 ?_
      refine ky_iald C (ltA hG ar4) (ceA4 hG) (tR0 hG) dX6_finesAll_23 (fun hx1 => ?_)
      refine ky_iadd C dX6_finesAll_24 ?_
      refine ky_nmi (fun x2 => ?_)
      refine ky_istore_n (lv' := [(1, .int x2), (0, .ref (gA G 0)), (2, .int xv2)]) C dX6_finesAll_25 (by decide) rfl ?_
      refine ky_iinc (lv' := fun x3 => [(2, .int x3), (1, .int x2), (0, .ref (gA G 0))]) C dX6_finesAll_26 2 rfl (d1 := (1 : Int32)) rfl (by decide) (fun _ => rfl) (fun x3 => ?_)
      refine ky_goto C 4 dX6_finesAll_29 (by decide) ?_
      exact ky_sub [2, 1, 0] rfl (ih x2 x3 M )
def f_X6_finesAll (F : Nat)  (M : Mem) : Option (Int32 × Mem) := LX6_finesAll_4 F  F (0 : Int32) (0 : Int32) M
set_option maxRecDepth 100000 in
set_option maxHeartbeats 4000000 in
theorem c_X6_finesAll {G : KyG} {cy : ClassId} (hG : IsR G cy) (F : Nat)   (M : Mem)  : Ct G yX6_finesAll (wY yX6_finesAll cX6_finesAll 3 (some .int)) rmX6_finesAll rI [.ref (gA G 0)] (f_X6_finesAll F  M) M := by
  refine Ct_of cX6_finesAll 3 (some .int) RX6 hG.2.2.2 (by decide) rfl rfl (Nat.le_of_ble_eq_true rfl) rfl (fun E C => ?_)
  unfold f_X6_finesAll
  refine ky_iconst C (0 : Int32) dX6_finesAll_0 (by decide) ?_
  refine ky_istore_n (lv' := [(1, .int (0 : Int32)), (0, .ref (gA G 0))]) C dX6_finesAll_1 (by decide) rfl ?_
  refine ky_iconst C (0 : Int32) dX6_finesAll_2 (by decide) ?_
  refine ky_istore_n (lv' := [(2, .int (0 : Int32)), (1, .int (0 : Int32)), (0, .ref (gA G 0))]) C dX6_finesAll_3 (by decide) rfl ?_
  exact ky_sub [2, 1, 0] rfl (lX6_finesAll_4 hG C F   F (0 : Int32) (0 : Int32) M )
def rmX6_countOf : Room := { frames := 2, cells := 0, slots := 0, locals := 44 }
theorem hd_X6_countOf : yX6_countOf.cls = RX6 ∧ yX6_countOf.cls ≠ "java/lang/invoke/MethodHandle" ∧ yX6_countOf.cls ≠ "java/lang/invoke/VarHandle" ∧ (parseMethodDescriptor yX6_countOf.desc).map (fun d => d.parameters.length) = some 1 := ⟨rfl, by decide, by decide, by decide +kernel⟩
def f_X6_countOf (F : Nat) (a1 : Int32) (M : Mem) : Option (Int32 × Mem) := (if a1 = (0 : Int32) then (bd (f_X6_trueAll F M) (fun r11 M12 => some (r11, M12))) else (if a1 = (1 : Int32) then (some (M.1 0 3, M)) else (if a1 = (2 : Int32) then (some (M.1 0 8, M)) else (if a1 = (3 : Int32) then (bd (f_X6_paidMany F M) (fun r13 M14 => some (r13, M14))) else (if a1 = (4 : Int32) then (bd (f_X6_finesAll F M) (fun r15 M16 => some (r15, M16))) else (if a1 = (5 : Int32) then (gi (0 : Int32) 3 (bd (f_X6_ones F (M.1 3 (0 : Int32).toNatClampNeg) M) (fun r18 M19 => gi (1 : Int32) 3 (bd (f_X6_ones F (M19.1 3 (1 : Int32).toNatClampNeg) M19) (fun r21 M22 => gi (2 : Int32) 3 (bd (f_X6_ones F (M22.1 3 (2 : Int32).toNatClampNeg) M22) (fun r24 M25 => some ((r18 + r21) + r24, M25)))))))) else (if a1 = (6 : Int32) then (some (M.1 0 4, M)) else (if a1 = (7 : Int32) then (some (M.1 0 13, M)) else (if a1 = (8 : Int32) then (some (M.1 0 1, M)) else (if a1 = (9 : Int32) then (some (M.1 0 5, M)) else (some ((mI 102), M))))))))))))
set_option maxRecDepth 100000 in
set_option maxHeartbeats 4000000 in
theorem c_X6_countOf {G : KyG} {cy : ClassId} (hG : IsR G cy) (F : Nat)  (a1 : Int32) (M : Mem)  : Ct G yX6_countOf (wY yX6_countOf cX6_countOf 2 (some .int)) rmX6_countOf rI [.ref (gA G 0), .int a1] (f_X6_countOf F a1 M) M := by
  refine Ct_of cX6_countOf 2 (some .int) RX6 hG.2.2.2 (by decide) rfl rfl (Nat.le_of_ble_eq_true rfl) rfl (fun E C => ?_)
  unfold f_X6_countOf
  refine ky_iload_n C dX6_countOf_0 1 rfl ?_
  refine ky_swIn C (0 : Int32) 56 dX6_countOf_1 (by decide) (by decide) rfl (by decide) ?_ (fun hs1 => ?_)
  · refine ky_aload_n C dX6_countOf_56 0 rfl ?_
    refine ky_callVi C (c_X6_trueAll hG F M ) (ltR hG) (ceR hG) rfl (wY_goodV tw_3_181 tw_3_183 tw_p10 tw_1_7 tw_3_184) hd_X6_trueAll ⟨rfl, rfl, by decide, by decide⟩ rfl rfl (Nat.le_of_ble_eq_true rfl) dX6_countOf_57 (fun r11 M12 => ?_)
    exact ky_iret C dX6_countOf_60
  refine ky_swIn C (1 : Int32) 61 dX6_countOf_1 (by decide) (by decide) rfl (by decide) ?_ (fun hs2 => ?_)
  · refine ky_aload_n C dX6_countOf_61 0 rfl ?_
    refine ky_get C (ltR hG) (ceR hG) rfl inWX6 3 (by decide) (wY_in tw_3_73) rfl rfl dX6_countOf_62 ?_
    exact ky_iret C dX6_countOf_65
  refine ky_swIn C (2 : Int32) 66 dX6_countOf_1 (by decide) (by decide) rfl (by decide) ?_ (fun hs3 => ?_)
  · refine ky_aload_n C dX6_countOf_66 0 rfl ?_
    refine ky_get C (ltR hG) (ceR hG) rfl inWX6 8 (by decide) (wY_in tw_3_78) rfl rfl dX6_countOf_67 ?_
    exact ky_iret C dX6_countOf_70
  refine ky_swIn C (3 : Int32) 71 dX6_countOf_1 (by decide) (by decide) rfl (by decide) ?_ (fun hs4 => ?_)
  · refine ky_aload_n C dX6_countOf_71 0 rfl ?_
    refine ky_callVi C (c_X6_paidMany hG F M ) (ltR hG) (ceR hG) rfl (wY_goodV tw_4_102 tw_4_104 tw_p31 tw_1_7 tw_4_105) hd_X6_paidMany ⟨rfl, rfl, by decide, by decide⟩ rfl rfl (Nat.le_of_ble_eq_true rfl) dX6_countOf_72 (fun r13 M14 => ?_)
    exact ky_iret C dX6_countOf_75
  refine ky_swIn C (4 : Int32) 76 dX6_countOf_1 (by decide) (by decide) rfl (by decide) ?_ (fun hs5 => ?_)
  · refine ky_aload_n C dX6_countOf_76 0 rfl ?_
    refine ky_callVi C (c_X6_finesAll hG F M ) (ltR hG) (ceR hG) rfl (wY_goodV tw_4_122 tw_4_124 tw_p33 tw_1_7 tw_4_125) hd_X6_finesAll ⟨rfl, rfl, by decide, by decide⟩ rfl rfl (Nat.le_of_ble_eq_true rfl) dX6_countOf_77 (fun r15 M16 => ?_)
    exact ky_iret C dX6_countOf_80
  refine ky_swIn C (5 : Int32) 81 dX6_countOf_1 (by decide) (by decide) rfl (by decide) ?_ (fun hs6 => ?_)
  · refine ky_aload_n C dX6_countOf_81 0 rfl ?_
    refine ky_get C (ltR hG) (ceR hG) rfl inWX6 7 (by decide) (wY_in tw_3_77) rfl rfl dX6_countOf_82 ?_
    refine ky_iconst C (0 : Int32) dX6_countOf_85 (by decide) ?_
    refine ky_iald C (ltA hG ar3) (ceA3 hG) (tR0 hG) dX6_countOf_86 (fun hx17 => ?_)
    refine ky_callSi C (c_X6_ones hG F (M.1 3 (0 : Int32).toNatClampNeg) M ) (wY_goodS tw_3_185 tw_3_186 tw_1_7 tw_3_187) hd_X6_ones ⟨rfl, rfl, by decide, by decide⟩ rfl rfl (Nat.le_of_ble_eq_true rfl) dX6_countOf_87 (fun r18 M19 => ?_)
    refine ky_aload_n C dX6_countOf_90 0 rfl ?_
    refine ky_get C (ltR hG) (ceR hG) rfl inWX6 7 (by decide) (wY_in tw_3_77) rfl rfl dX6_countOf_91 ?_
    refine ky_iconst C (1 : Int32) dX6_countOf_94 (by decide) ?_
    refine ky_iald C (ltA hG ar3) (ceA3 hG) (tR0 hG) dX6_countOf_95 (fun hx20 => ?_)
    refine ky_callSi C (c_X6_ones hG F (M19.1 3 (1 : Int32).toNatClampNeg) M19 ) (wY_goodS tw_3_185 tw_3_186 tw_1_7 tw_3_187) hd_X6_ones ⟨rfl, rfl, by decide, by decide⟩ rfl rfl (Nat.le_of_ble_eq_true rfl) dX6_countOf_96 (fun r21 M22 => ?_)
    refine ky_iadd C dX6_countOf_99 ?_
    refine ky_aload_n C dX6_countOf_100 0 rfl ?_
    refine ky_get C (ltR hG) (ceR hG) rfl inWX6 7 (by decide) (wY_in tw_3_77) rfl rfl dX6_countOf_101 ?_
    refine ky_iconst C (2 : Int32) dX6_countOf_104 (by decide) ?_
    refine ky_iald C (ltA hG ar3) (ceA3 hG) (tR0 hG) dX6_countOf_105 (fun hx23 => ?_)
    refine ky_callSi C (c_X6_ones hG F (M22.1 3 (2 : Int32).toNatClampNeg) M22 ) (wY_goodS tw_3_185 tw_3_186 tw_1_7 tw_3_187) hd_X6_ones ⟨rfl, rfl, by decide, by decide⟩ rfl rfl (Nat.le_of_ble_eq_true rfl) dX6_countOf_106 (fun r24 M25 => ?_)
    refine ky_iadd C dX6_countOf_109 ?_
    exact ky_iret C dX6_countOf_110
  refine ky_swIn C (6 : Int32) 111 dX6_countOf_1 (by decide) (by decide) rfl (by decide) ?_ (fun hs7 => ?_)
  · refine ky_aload_n C dX6_countOf_111 0 rfl ?_
    refine ky_get C (ltR hG) (ceR hG) rfl inWX6 4 (by decide) (wY_in tw_3_74) rfl rfl dX6_countOf_112 ?_
    exact ky_iret C dX6_countOf_115
  refine ky_swIn C (7 : Int32) 116 dX6_countOf_1 (by decide) (by decide) rfl (by decide) ?_ (fun hs8 => ?_)
  · refine ky_aload_n C dX6_countOf_116 0 rfl ?_
    refine ky_get C (ltR hG) (ceR hG) rfl inWX6 13 (by decide) (wY_in tw_3_83) rfl rfl dX6_countOf_117 ?_
    exact ky_iret C dX6_countOf_120
  refine ky_swIn C (8 : Int32) 121 dX6_countOf_1 (by decide) (by decide) rfl (by decide) ?_ (fun hs9 => ?_)
  · refine ky_aload_n C dX6_countOf_121 0 rfl ?_
    refine ky_get C (ltR hG) (ceR hG) rfl inWX6 1 (by decide) (wY_in tw_3_71) rfl rfl dX6_countOf_122 ?_
    exact ky_iret C dX6_countOf_125
  refine ky_swIn C (9 : Int32) 126 dX6_countOf_1 (by decide) (by decide) rfl (by decide) ?_ (fun hs10 => ?_)
  · refine ky_aload_n C dX6_countOf_126 0 rfl ?_
    refine ky_get C (ltR hG) (ceR hG) rfl inWX6 5 (by decide) (wY_in tw_3_75) rfl rfl dX6_countOf_127 ?_
    exact ky_iret C dX6_countOf_130
  refine ky_swOut C 131 dX6_countOf_1 (sw_all 10 9 (by decide) (by decide) (fun j hj => by match j, hj with | 0, _ => exact hs1 | 1, _ => exact hs2 | 2, _ => exact hs3 | 3, _ => exact hs4 | 4, _ => exact hs5 | 5, _ => exact hs6 | 6, _ => exact hs7 | 7, _ => exact hs8 | 8, _ => exact hs9 | 9, _ => exact hs10 | j + 10, hj => exact absurd hj (by omega))) (by decide) ?_
  refine ky_bipush C (mI 102) dX6_countOf_131 (by decide) ?_
  exact ky_iret C dX6_countOf_133
def rmX6_count : Room := { frames := 3, cells := 0, slots := 0, locals := 65 }
theorem hd_X6_count : yX6_count.cls = RX6 ∧ yX6_count.cls ≠ "java/lang/invoke/MethodHandle" ∧ yX6_count.cls ≠ "java/lang/invoke/VarHandle" ∧ (parseMethodDescriptor yX6_count.desc).map (fun d => d.parameters.length) = some 1 := ⟨rfl, by decide, by decide, by decide +kernel⟩
def f_X6_count (F : Nat) (a1 : Int32) (M : Mem) : Option (Int32 × Mem) := bd (f_X6_countOf F a1 M) (fun r1 M2 => some (r1, M2))
set_option maxRecDepth 100000 in
set_option maxHeartbeats 4000000 in
theorem c_X6_count {G : KyG} {cy : ClassId} (hG : IsR G cy) (F : Nat)  (a1 : Int32) (M : Mem)  : Ct G yX6_count (wY yX6_count cX6_count 2 (some .int)) rmX6_count rI [.ref (gA G 0), .int a1] (f_X6_count F a1 M) M := by
  refine Ct_of cX6_count 2 (some .int) RX6 hG.2.2.2 (by decide) rfl rfl (Nat.le_of_ble_eq_true rfl) rfl (fun E C => ?_)
  unfold f_X6_count
  refine ky_aload_n C dX6_count_0 0 rfl ?_
  refine ky_iload_n C dX6_count_1 1 rfl ?_
  refine ky_callVi C (c_X6_countOf hG F a1 M ) (ltR hG) (ceR hG) rfl (wY_goodV tw_4_118 tw_4_120 tw_p32 tw_1_7 tw_4_121) hd_X6_countOf ⟨rfl, rfl, by decide, by decide⟩ rfl rfl (Nat.le_of_ble_eq_true rfl) dX6_count_2 (fun r1 M2 => ?_)
  exact ky_iret C dX6_count_5
def rmX6_draw : Room := { frames := 0, cells := 0, slots := 0, locals := 0 }
theorem hd_X6_draw : yX6_draw.cls = RX6 ∧ yX6_draw.cls ≠ "java/lang/invoke/MethodHandle" ∧ yX6_draw.cls ≠ "java/lang/invoke/VarHandle" ∧ (parseMethodDescriptor yX6_draw.desc).map (fun d => d.parameters.length) = some 1 := ⟨rfl, by decide, by decide, by decide +kernel⟩
def f_X6_draw (F : Nat) (a1 : Int32) (M : Mem) : Option (Int32 × Mem) := nm (((((1103515245 : Int64) * ((M.1 0 15).toInt64)) + (12345 : Int64)) &&& (2147483647 : Int64)).toInt32) (fun x1 => nm (u2 M 0 15 x1) (fun M2 => if a1 = 0 then none else (some (((M2.1 0 15) / (65536 : Int32)) - ((M2.1 0 15) / (65536 : Int32)) / a1 * a1, M2))))
set_option maxRecDepth 100000 in
set_option maxHeartbeats 4000000 in
theorem c_X6_draw {G : KyG} {cy : ClassId} (hG : IsR G cy) (F : Nat)  (a1 : Int32) (M : Mem)  : Ct G yX6_draw (wY yX6_draw cX6_draw 2 (some .int)) rmX6_draw rI [.ref (gA G 0), .int a1] (f_X6_draw F a1 M) M := by
  refine Ct_of cX6_draw 2 (some .int) RX6 hG.2.2.2 (by decide) rfl rfl (Nat.le_of_ble_eq_true rfl) rfl (fun E C => ?_)
  unfold f_X6_draw
  refine ky_aload_n C dX6_draw_0 0 rfl ?_
  refine ky_ldc2 C (1103515245 : Int64) (wY_in tw_4_98) dX6_draw_1 ?_
  refine ky_aload_n C dX6_draw_4 0 rfl ?_
  refine ky_get C (ltR hG) (ceR hG) rfl inWX6 15 (by decide) (wY_in tw_3_85) rfl rfl dX6_draw_5 ?_
  refine ky_i2l C dX6_draw_8 ?_
  refine ky_lmul C dX6_draw_9 ?_
  refine ky_ldc2 C (12345 : Int64) (wY_in tw_4_99) dX6_draw_10 ?_
  refine ky_ladd C dX6_draw_13 ?_
  refine ky_ldc2 C (2147483647 : Int64) (wY_in tw_4_100) dX6_draw_14 ?_
  refine ky_land C dX6_draw_17 ?_
  refine ky_l2i C dX6_draw_18 ?_
  refine ky_nmi (fun x1 => ?_)
  refine ky_put C (ltR hG) (ceR hG) rfl inWX6 tyX6_ok nmX6 15 (by decide) (wY_in tw_3_85) ⟨rfl, rfl⟩ (tyX6_ok 15 (by decide)) rfl rfl (Nat.le_of_ble_eq_true rfl) rfl dX6_draw_19 (fun M2 => ?_)
  refine ky_aload_n C dX6_draw_22 0 rfl ?_
  refine ky_get C (ltR hG) (ceR hG) rfl inWX6 15 (by decide) (wY_in tw_3_85) rfl rfl dX6_draw_23 ?_
  refine ky_ldc C (65536 : Int32) (wY_in tw_4_101) dX6_draw_26 ?_
  refine ky_idiv C dX6_draw_28 (by decide) ?_
  refine ky_iload_n C dX6_draw_29 1 rfl ?_
  refine ky_iremG C dX6_draw_30 ?_
  exact ky_iret C dX6_draw_31
def rmX6_knows : Room := { frames := 0, cells := 0, slots := 0, locals := 0 }
theorem hd_X6_knows : yX6_knows.cls = RX6 ∧ yX6_knows.cls ≠ "java/lang/invoke/MethodHandle" ∧ yX6_knows.cls ≠ "java/lang/invoke/VarHandle" ∧ (parseMethodDescriptor yX6_knows.desc).map (fun d => d.parameters.length) = some 2 := ⟨rfl, by decide, by decide, by decide +kernel⟩
def f_X6_knows (F : Nat) (a1 : Int32) (a2 : Int32) (M : Mem) : Option (Int32 × Mem) := gi (((6 : Int32) * a1) + (3 : Int32)) 24 (if (((M.1 4 (((6 : Int32) * a1) + (3 : Int32)).toNatClampNeg) >>> (a2 &&& 31)) &&& (1 : Int32)) = (1 : Int32) then (some ((1 : Int32), M)) else (some ((0 : Int32), M)))
set_option maxRecDepth 100000 in
set_option maxHeartbeats 4000000 in
theorem c_X6_knows {G : KyG} {cy : ClassId} (hG : IsR G cy) (F : Nat)  (a1 : Int32) (a2 : Int32) (M : Mem)  : Ct G yX6_knows (wY yX6_knows cX6_knows 3 (some .boolean)) rmX6_knows rI [.ref (gA G 0), .int a1, .int a2] (f_X6_knows F a1 a2 M) M := by
  refine Ct_of cX6_knows 3 (some .boolean) RX6 hG.2.2.2 (by decide) rfl rfl (Nat.le_of_ble_eq_true rfl) rfl (fun E C => ?_)
  unfold f_X6_knows
  refine ky_aload_n C dX6_knows_0 0 rfl ?_
  refine ky_get C (ltR hG) (ceR hG) rfl inWX6 9 (by decide) (wY_in tw_3_79) rfl rfl dX6_knows_1 ?_
  refine ky_bipush C (6 : Int32) dX6_knows_4 (by decide) ?_
  refine ky_iload_n C dX6_knows_6 1 rfl ?_
  refine ky_imul C dX6_knows_7 ?_
  refine ky_iconst C (3 : Int32) dX6_knows_8 (by decide) ?_
  refine ky_iadd C dX6_knows_9 ?_
  refine ky_iald C (ltA hG ar4) (ceA4 hG) (tR0 hG) dX6_knows_10 (fun hx1 => ?_)
  refine ky_iload_n C dX6_knows_11 2 rfl ?_
  refine ky_ishr C dX6_knows_12 ?_
  refine ky_iconst C (1 : Int32) dX6_knows_13 (by decide) ?_
  refine ky_iand C dX6_knows_14 ?_
  refine ky_iconst C (1 : Int32) dX6_knows_15 (by decide) ?_
  refine ky_icmp_ne C 23 dX6_knows_16 (by decide) ?_ ?_
  · refine ky_iconst C (1 : Int32) dX6_knows_19 (by decide) ?_
    refine ky_goto C 24 dX6_knows_20 (by decide) ?_
    exact ky_zret C (by decide) dX6_knows_24
  · refine ky_iconst C (0 : Int32) dX6_knows_23 (by decide) ?_
    exact ky_zret C (by decide) dX6_knows_24
def rmX6_says : Room := { frames := 0, cells := 0, slots := 0, locals := 0 }
theorem hd_X6_says : yX6_says.cls = RX6 ∧ yX6_says.cls ≠ "java/lang/invoke/MethodHandle" ∧ yX6_says.cls ≠ "java/lang/invoke/VarHandle" ∧ (parseMethodDescriptor yX6_says.desc).map (fun d => d.parameters.length) = some 2 := ⟨rfl, by decide, by decide, by decide +kernel⟩
def JX6_says_117 (F : Nat) (xv1 : Int32) (xv2 : Int32) (xv3 : Int32) (xs0 : Int32) (xs1 : Int32) (M : Mem) : Option (Int32 × Mem) := nm (xs1 - xs0) (fun x5 => nm (u2 M 0 3 x5) (fun M6 => gi xv3 3 (nm ((M6.1 3 xv3.toNatClampNeg) ||| ((1 : Int32) <<< (xv2 &&& 31))) (fun x8 => gi xv3 3 (nm (u2 M6 3 xv3.toNatClampNeg x8) (fun M9 => gi (((6 : Int32) * xv1) + (5 : Int32)) 24 (nm ((M9.1 4 (((6 : Int32) * xv1) + (5 : Int32)).toNatClampNeg) + (1 : Int32)) (fun x12 => gi (((6 : Int32) * xv1) + (5 : Int32)) 24 (nm (u2 M9 4 (((6 : Int32) * xv1) + (5 : Int32)).toNatClampNeg x12) (fun M13 => gi (((6 : Int32) * xv1) + (2 : Int32)) 24 (gi ((6 : Int32) * xv1) 24 (if (M13.1 4 ((6 : Int32) * xv1).toNatClampNeg) = (3 : Int32) then (gi (((6 : Int32) * xv1) + (5 : Int32)) 24 (if ((M13.1 4 (((6 : Int32) * xv1) + (5 : Int32)).toNatClampNeg) - (M13.1 4 (((6 : Int32) * xv1) + (5 : Int32)).toNatClampNeg) / (2 : Int32) * (2 : Int32)) = (1 : Int32) then (nm ((M13.1 4 (((6 : Int32) * xv1) + (2 : Int32)).toNatClampNeg) - (0 : Int32)) (fun x24 => gi (((6 : Int32) * xv1) + (2 : Int32)) 24 (nm (u2 M13 4 (((6 : Int32) * xv1) + (2 : Int32)).toNatClampNeg x24) (fun M25 => some ((1 : Int32), M25))))) else (nm ((M13.1 4 (((6 : Int32) * xv1) + (2 : Int32)).toNatClampNeg) - (1 : Int32)) (fun x21 => gi (((6 : Int32) * xv1) + (2 : Int32)) 24 (nm (u2 M13 4 (((6 : Int32) * xv1) + (2 : Int32)).toNatClampNeg x21) (fun M22 => some ((1 : Int32), M22))))))) else (nm ((M13.1 4 (((6 : Int32) * xv1) + (2 : Int32)).toNatClampNeg) - (1 : Int32)) (fun x17 => gi (((6 : Int32) * xv1) + (2 : Int32)) 24 (nm (u2 M13 4 (((6 : Int32) * xv1) + (2 : Int32)).toNatClampNeg x17) (fun M18 => some ((1 : Int32), M18)))))))))))))))))
set_option maxRecDepth 100000 in
set_option maxHeartbeats 4000000 in
theorem jX6_says_117 {G : KyG} {cy : ClassId} (hG : IsR G cy) {E : KyE} (C : Cx G E cX6_says 7 RX6 (wY yX6_says cX6_says 7 (some .int)) (some .int) rmX6_says) (F : Nat) (xv1 : Int32) (xv2 : Int32) (xv3 : Int32) (xs0 : Int32) (xs1 : Int32) (M : Mem)  : Wo G E 7 rI (JX6_says_117 F xv1 xv2 xv3 xs0 xs1 M) M 117 [(0, .ref (gA G 0)), (1, .int xv1), (2, .int xv2), (3, .int xv3)] [.int xs0, .int xs1, .ref (gA G 0)] := by
  unfold JX6_says_117
  refine ky_isub C dX6_says_117 ?_
  refine ky_nmi (fun x5 => ?_)
  refine ky_put C (ltR hG) (ceR hG) rfl inWX6 tyX6_ok nmX6 3 (by decide) (wY_in tw_3_73) ⟨rfl, rfl⟩ (tyX6_ok 3 (by decide)) rfl rfl (Nat.le_of_ble_eq_true rfl) rfl dX6_says_118 (fun M6 => ?_)
  refine ky_aload_n C dX6_says_121 0 rfl ?_
  refine ky_get C (ltR hG) (ceR hG) rfl inWX6 7 (by decide) (wY_in tw_3_77) rfl rfl dX6_says_122 ?_
  refine ky_iload_n C dX6_says_125 3 rfl ?_
  refine ky_dup2 C dX6_says_126 rfl rfl ?_
  refine ky_iald C (ltA hG ar3) (ceA3 hG) (tR0 hG) dX6_says_127 (fun hx7 => ?_)
  refine ky_iconst C (1 : Int32) dX6_says_128 (by decide) ?_
  refine ky_iload_n C dX6_says_129 2 rfl ?_
  refine ky_ishl C dX6_says_130 ?_
  refine ky_ior C dX6_says_131 ?_
  refine ky_nmi (fun x8 => ?_)
  refine ky_iast C (ltA hG ar3) (ceA3 hG) (tR0 hG) dX6_says_132 (fun M9 hx10 => ?_)
  refine ky_aload_n C dX6_says_133 0 rfl ?_
  refine ky_get C (ltR hG) (ceR hG) rfl inWX6 9 (by decide) (wY_in tw_3_79) rfl rfl dX6_says_134 ?_
  refine ky_bipush C (6 : Int32) dX6_says_137 (by decide) ?_
  refine ky_iload_n C dX6_says_139 1 rfl ?_
  refine ky_imul C dX6_says_140 ?_
  refine ky_iconst C (5 : Int32) dX6_says_141 (by decide) ?_
  refine ky_iadd C dX6_says_142 ?_
  refine ky_dup2 C dX6_says_143 rfl rfl ?_
  refine ky_iald C (ltA hG ar4) (ceA4 hG) (tR0 hG) dX6_says_144 (fun hx11 => ?_)
  refine ky_iconst C (1 : Int32) dX6_says_145 (by decide) ?_
  refine ky_iadd C dX6_says_146 ?_
  refine ky_nmi (fun x12 => ?_)
  refine ky_iast C (ltA hG ar4) (ceA4 hG) (tR0 hG) dX6_says_147 (fun M13 hx14 => ?_)
  refine ky_aload_n C dX6_says_148 0 rfl ?_
  refine ky_get C (ltR hG) (ceR hG) rfl inWX6 9 (by decide) (wY_in tw_3_79) rfl rfl dX6_says_149 ?_
  refine ky_bipush C (6 : Int32) dX6_says_152 (by decide) ?_
  refine ky_iload_n C dX6_says_154 1 rfl ?_
  refine ky_imul C dX6_says_155 ?_
  refine ky_iconst C (2 : Int32) dX6_says_156 (by decide) ?_
  refine ky_iadd C dX6_says_157 ?_
  refine ky_dup2 C dX6_says_158 rfl rfl ?_
  refine ky_iald C (ltA hG ar4) (ceA4 hG) (tR0 hG) dX6_says_159 (fun hx15 => ?_)
  refine ky_aload_n C dX6_says_160 0 rfl ?_
  refine ky_get C (ltR hG) (ceR hG) rfl inWX6 9 (by decide) (wY_in tw_3_79) rfl rfl dX6_says_161 ?_
  refine ky_bipush C (6 : Int32) dX6_says_164 (by decide) ?_
  refine ky_iload_n C dX6_says_166 1 rfl ?_
  refine ky_imul C dX6_says_167 ?_
  refine ky_iald C (ltA hG ar4) (ceA4 hG) (tR0 hG) dX6_says_168 (fun hx16 => ?_)
  refine ky_iconst C (3 : Int32) dX6_says_169 (by decide) ?_
  refine ky_icmp_ne C 194 dX6_says_170 (by decide) ?_ ?_
  · refine ky_aload_n C dX6_says_173 0 rfl ?_
    refine ky_get C (ltR hG) (ceR hG) rfl inWX6 9 (by decide) (wY_in tw_3_79) rfl rfl dX6_says_174 ?_
    refine ky_bipush C (6 : Int32) dX6_says_177 (by decide) ?_
    refine ky_iload_n C dX6_says_179 1 rfl ?_
    refine ky_imul C dX6_says_180 ?_
    refine ky_iconst C (5 : Int32) dX6_says_181 (by decide) ?_
    refine ky_iadd C dX6_says_182 ?_
    refine ky_iald C (ltA hG ar4) (ceA4 hG) (tR0 hG) dX6_says_183 (fun hx20 => ?_)
    refine ky_iconst C (2 : Int32) dX6_says_184 (by decide) ?_
    refine ky_irem C dX6_says_185 (by decide) ?_
    refine ky_iconst C (1 : Int32) dX6_says_186 (by decide) ?_
    refine ky_icmp_ne C 194 dX6_says_187 (by decide) ?_ ?_
    · refine ky_iconst C (0 : Int32) dX6_says_190 (by decide) ?_
      refine ky_goto C 195 dX6_says_191 (by decide) ?_
      refine ky_isub C dX6_says_195 ?_
      refine ky_nmi (fun x24 => ?_)
      refine ky_iast C (ltA hG ar4) (ceA4 hG) (tR0 hG) dX6_says_196 (fun M25 hx26 => ?_)
      refine ky_iconst C (1 : Int32) dX6_says_197 (by decide) ?_
      exact ky_iret C dX6_says_198
    · refine ky_iconst C (1 : Int32) dX6_says_194 (by decide) ?_
      refine ky_isub C dX6_says_195 ?_
      refine ky_nmi (fun x21 => ?_)
      refine ky_iast C (ltA hG ar4) (ceA4 hG) (tR0 hG) dX6_says_196 (fun M22 hx23 => ?_)
      refine ky_iconst C (1 : Int32) dX6_says_197 (by decide) ?_
      exact ky_iret C dX6_says_198
  · refine ky_iconst C (1 : Int32) dX6_says_194 (by decide) ?_
    refine ky_isub C dX6_says_195 ?_
    refine ky_nmi (fun x17 => ?_)
    refine ky_iast C (ltA hG ar4) (ceA4 hG) (tR0 hG) dX6_says_196 (fun M18 hx19 => ?_)
    refine ky_iconst C (1 : Int32) dX6_says_197 (by decide) ?_
    exact ky_iret C dX6_says_198
def JX6_says_102 (F : Nat) (xv1 : Int32) (xv2 : Int32) (xv3 : Int32) (xv6 : Int32) (M : Mem) : Option (Int32 × Mem) := if xv6 = 0 then (JX6_says_117 F xv1 xv2 xv3 (0 : Int32) (M.1 0 3) M) else (JX6_says_117 F xv1 xv2 xv3 (1 : Int32) (M.1 0 3) M)
set_option maxRecDepth 100000 in
set_option maxHeartbeats 4000000 in
theorem jX6_says_102 {G : KyG} {cy : ClassId} (hG : IsR G cy) {E : KyE} (C : Cx G E cX6_says 7 RX6 (wY yX6_says cX6_says 7 (some .int)) (some .int) rmX6_says) (F : Nat) (xv1 : Int32) (xv2 : Int32) (xv3 : Int32) (xv6 : Int32) (M : Mem)  : Wo G E 7 rI (JX6_says_102 F xv1 xv2 xv3 xv6 M) M 102 [(0, .ref (gA G 0)), (1, .int xv1), (2, .int xv2), (3, .int xv3), (6, .int xv6)] [] := by
  unfold JX6_says_102
  refine ky_aload_n C dX6_says_102 0 rfl ?_
  refine ky_dup C dX6_says_103 rfl ?_
  refine ky_get C (ltR hG) (ceR hG) rfl inWX6 3 (by decide) (wY_in tw_3_73) rfl rfl dX6_says_104 ?_
  refine ky_iload C dX6_says_107 4 rfl ?_
  refine ky_if_eq C 116 dX6_says_109 (by decide) ?_ ?_
  · refine ky_iconst C (0 : Int32) dX6_says_116 (by decide) ?_
    exact ky_sub [0, 1, 2, 3] rfl (jX6_says_117 hG C F xv1 xv2 xv3 (0 : Int32) (M.1 0 3) M )
  · refine ky_iconst C (1 : Int32) dX6_says_112 (by decide) ?_
    refine ky_goto C 117 dX6_says_113 (by decide) ?_
    exact ky_sub [0, 1, 2, 3] rfl (jX6_says_117 hG C F xv1 xv2 xv3 (1 : Int32) (M.1 0 3) M )
def JX6_says_83 (F : Nat) (xv1 : Int32) (xv2 : Int32) (xv3 : Int32) (xv4 : Int32) (xv5 : Int32) (xs0 : Int32) (M : Mem) : Option (Int32 × Mem) := if xv4 = 0 then (some ((0 : Int32), M)) else (if xv5 = 0 then (if xs0 = 0 then (some ((0 : Int32), M)) else (JX6_says_102 F xv1 xv2 xv3 xs0 M)) else (JX6_says_102 F xv1 xv2 xv3 xs0 M))
set_option maxRecDepth 100000 in
set_option maxHeartbeats 4000000 in
theorem jX6_says_83 {G : KyG} {cy : ClassId} (hG : IsR G cy) {E : KyE} (C : Cx G E cX6_says 7 RX6 (wY yX6_says cX6_says 7 (some .int)) (some .int) rmX6_says) (F : Nat) (xv1 : Int32) (xv2 : Int32) (xv3 : Int32) (xv4 : Int32) (xv5 : Int32) (xs0 : Int32) (M : Mem)  : Wo G E 7 rI (JX6_says_83 F xv1 xv2 xv3 xv4 xv5 xs0 M) M 83 [(0, .ref (gA G 0)), (1, .int xv1), (2, .int xv2), (3, .int xv3), (4, .int xv4), (5, .int xv5)] [.int xs0] := by
  unfold JX6_says_83
  refine ky_istore (lv' := [(6, .int xs0), (0, .ref (gA G 0)), (1, .int xv1), (2, .int xv2), (3, .int xv3), (4, .int xv4), (5, .int xv5)]) C dX6_says_83 (by decide) rfl ?_
  refine ky_iload C dX6_says_85 5 rfl ?_
  refine ky_if_eq C 100 dX6_says_87 (by decide) ?_ ?_
  · refine ky_iconst C (0 : Int32) dX6_says_100 (by decide) ?_
    exact ky_iret C dX6_says_101
  · refine ky_iload C dX6_says_90 6 rfl ?_
    refine ky_if_ne C 102 dX6_says_92 (by decide) ?_ ?_
    · refine ky_iload C dX6_says_95 0 rfl ?_
      refine ky_if_ne C 102 dX6_says_97 (by decide) ?_ ?_
      · refine ky_iconst C (0 : Int32) dX6_says_100 (by decide) ?_
        exact ky_iret C dX6_says_101
      · exact ky_sub [1, 2, 3, 4, 0] rfl (jX6_says_102 hG C F xv1 xv2 xv3 xs0 M )
    · exact ky_sub [1, 2, 3, 4, 0] rfl (jX6_says_102 hG C F xv1 xv2 xv3 xs0 M )
def JX6_says_82 (F : Nat) (xv1 : Int32) (xv2 : Int32) (xv3 : Int32) (xv4 : Int32) (xv5 : Int32) (M : Mem) : Option (Int32 × Mem) := JX6_says_83 F xv1 xv2 xv3 xv4 xv5 (0 : Int32) M
set_option maxRecDepth 100000 in
set_option maxHeartbeats 4000000 in
theorem jX6_says_82 {G : KyG} {cy : ClassId} (hG : IsR G cy) {E : KyE} (C : Cx G E cX6_says 7 RX6 (wY yX6_says cX6_says 7 (some .int)) (some .int) rmX6_says) (F : Nat) (xv1 : Int32) (xv2 : Int32) (xv3 : Int32) (xv4 : Int32) (xv5 : Int32) (M : Mem)  : Wo G E 7 rI (JX6_says_82 F xv1 xv2 xv3 xv4 xv5 M) M 82 [(0, .ref (gA G 0)), (1, .int xv1), (2, .int xv2), (3, .int xv3), (4, .int xv4), (5, .int xv5)] [] := by
  unfold JX6_says_82
  refine ky_iconst C (0 : Int32) dX6_says_82 (by decide) ?_
  exact ky_sub [0, 1, 2, 3, 4, 5] rfl (jX6_says_83 hG C F xv1 xv2 xv3 xv4 xv5 (0 : Int32) M )
def JX6_says_51 (F : Nat) (xv1 : Int32) (xv2 : Int32) (xv3 : Int32) (xv4 : Int32) (xs0 : Int32) (M : Mem) : Option (Int32 × Mem) := if xs0 = 0 then (gi ((6 : Int32) * xv1) 24 (if (M.1 4 ((6 : Int32) * xv1).toNatClampNeg) = (2 : Int32) then (if (M.1 0 3) ≤ 0 then (JX6_says_82 F xv1 xv2 xv3 xv4 xs0 M) else (JX6_says_83 F xv1 xv2 xv3 xv4 xs0 (1 : Int32) M)) else (JX6_says_82 F xv1 xv2 xv3 xv4 xs0 M))) else (JX6_says_82 F xv1 xv2 xv3 xv4 xs0 M)
set_option maxRecDepth 100000 in
set_option maxHeartbeats 4000000 in
theorem jX6_says_51 {G : KyG} {cy : ClassId} (hG : IsR G cy) {E : KyE} (C : Cx G E cX6_says 7 RX6 (wY yX6_says cX6_says 7 (some .int)) (some .int) rmX6_says) (F : Nat) (xv1 : Int32) (xv2 : Int32) (xv3 : Int32) (xv4 : Int32) (xs0 : Int32) (M : Mem)  : Wo G E 7 rI (JX6_says_51 F xv1 xv2 xv3 xv4 xs0 M) M 51 [(0, .ref (gA G 0)), (1, .int xv1), (2, .int xv2), (3, .int xv3), (4, .int xv4)] [.int xs0] := by
  unfold JX6_says_51
  refine ky_istore (lv' := [(5, .int xs0), (0, .ref (gA G 0)), (1, .int xv1), (2, .int xv2), (3, .int xv3), (4, .int xv4)]) C dX6_says_51 (by decide) rfl ?_
  refine ky_iload C dX6_says_53 0 rfl ?_
  refine ky_if_ne C 82 dX6_says_55 (by decide) ?_ ?_
  · refine ky_aload_n C dX6_says_58 1 rfl ?_
    refine ky_get C (ltR hG) (ceR hG) rfl inWX6 9 (by decide) (wY_in tw_3_79) rfl rfl dX6_says_59 ?_
    refine ky_bipush C (6 : Int32) dX6_says_62 (by decide) ?_
    refine ky_iload_n C dX6_says_64 2 rfl ?_
    refine ky_imul C dX6_says_65 ?_
    refine ky_iald C (ltA hG ar4) (ceA4 hG) (tR0 hG) dX6_says_66 (fun hx27 => ?_)
    refine ky_iconst C (2 : Int32) dX6_says_67 (by decide) ?_
    refine ky_icmp_ne C 82 dX6_says_68 (by decide) ?_ ?_
    · refine ky_aload_n C dX6_says_71 1 rfl ?_
      refine ky_get C (ltR hG) (ceR hG) rfl inWX6 3 (by decide) (wY_in tw_3_73) rfl rfl dX6_says_72 ?_
      refine ky_if_le C 82 dX6_says_75 (by decide) ?_ ?_
      · exact ky_sub [1, 2, 3, 4, 5, 0] rfl (jX6_says_82 hG C F xv1 xv2 xv3 xv4 xs0 M )
      · refine ky_iconst C (1 : Int32) dX6_says_78 (by decide) ?_
        refine ky_goto C 83 dX6_says_79 (by decide) ?_
        exact ky_sub [1, 2, 3, 4, 5, 0] rfl (jX6_says_83 hG C F xv1 xv2 xv3 xv4 xs0 (1 : Int32) M )
    · exact ky_sub [1, 2, 3, 4, 5, 0] rfl (jX6_says_82 hG C F xv1 xv2 xv3 xv4 xs0 M )
  · exact ky_sub [1, 2, 3, 4, 5, 0] rfl (jX6_says_82 hG C F xv1 xv2 xv3 xv4 xs0 M )
def JX6_says_30 (F : Nat) (xv1 : Int32) (xv2 : Int32) (xv3 : Int32) (xs0 : Int32) (M : Mem) : Option (Int32 × Mem) := gi xv3 3 (if (((M.1 2 xv3.toNatClampNeg) >>> (xv2 &&& 31)) &&& (1 : Int32)) = (1 : Int32) then (JX6_says_51 F xv1 xv2 xv3 xs0 (1 : Int32) M) else (JX6_says_51 F xv1 xv2 xv3 xs0 (0 : Int32) M))
set_option maxRecDepth 100000 in
set_option maxHeartbeats 4000000 in
theorem jX6_says_30 {G : KyG} {cy : ClassId} (hG : IsR G cy) {E : KyE} (C : Cx G E cX6_says 7 RX6 (wY yX6_says cX6_says 7 (some .int)) (some .int) rmX6_says) (F : Nat) (xv1 : Int32) (xv2 : Int32) (xv3 : Int32) (xs0 : Int32) (M : Mem)  : Wo G E 7 rI (JX6_says_30 F xv1 xv2 xv3 xs0 M) M 30 [(0, .ref (gA G 0)), (1, .int xv1), (2, .int xv2), (3, .int xv3)] [.int xs0] := by
  unfold JX6_says_30
  refine ky_istore (lv' := [(4, .int xs0), (0, .ref (gA G 0)), (1, .int xv1), (2, .int xv2), (3, .int xv3)]) C dX6_says_30 (by decide) rfl ?_
  refine ky_aload_n C dX6_says_32 1 rfl ?_
  refine ky_get C (ltR hG) (ceR hG) rfl inWX6 6 (by decide) (wY_in tw_3_76) rfl rfl dX6_says_33 ?_
  refine ky_iload_n C dX6_says_36 4 rfl ?_
  refine ky_iald C (ltA hG ar2) (ceA2 hG) (tR0 hG) dX6_says_37 (fun hx4 => ?_)
  refine ky_iload_n C dX6_says_38 3 rfl ?_
  refine ky_ishr C dX6_says_39 ?_
  refine ky_iconst C (1 : Int32) dX6_says_40 (by decide) ?_
  refine ky_iand C dX6_says_41 ?_
  refine ky_iconst C (1 : Int32) dX6_says_42 (by decide) ?_
  refine ky_icmp_ne C 50 dX6_says_43 (by decide) ?_ ?_
  · refine ky_iconst C (1 : Int32) dX6_says_46 (by decide) ?_
    refine ky_goto C 51 dX6_says_47 (by decide) ?_
    exact ky_sub [1, 2, 3, 4, 0] rfl (jX6_says_51 hG C F xv1 xv2 xv3 xs0 (1 : Int32) M )
  · refine ky_iconst C (0 : Int32) dX6_says_50 (by decide) ?_
    exact ky_sub [1, 2, 3, 4, 0] rfl (jX6_says_51 hG C F xv1 xv2 xv3 xs0 (0 : Int32) M )
def f_X6_says (F : Nat) (a1 : Int32) (a2 : Int32) (M : Mem) : Option (Int32 × Mem) := gi (((6 : Int32) * a1) + (1 : Int32)) 24 (nm (M.1 4 (((6 : Int32) * a1) + (1 : Int32)).toNatClampNeg) (fun x2 => gi x2 3 (if (((M.1 3 x2.toNatClampNeg) >>> (a2 &&& 31)) &&& (1 : Int32)) = 0 then (JX6_says_30 F a1 a2 x2 (1 : Int32) M) else (JX6_says_30 F a1 a2 x2 (0 : Int32) M))))
set_option maxRecDepth 100000 in
set_option maxHeartbeats 4000000 in
theorem c_X6_says {G : KyG} {cy : ClassId} (hG : IsR G cy) (F : Nat)  (a1 : Int32) (a2 : Int32) (M : Mem)  : Ct G yX6_says (wY yX6_says cX6_says 7 (some .int)) rmX6_says rI [.ref (gA G 0), .int a1, .int a2] (f_X6_says F a1 a2 M) M := by
  refine Ct_of cX6_says 7 (some .int) RX6 hG.2.2.2 (by decide) rfl rfl (Nat.le_of_ble_eq_true rfl) rfl (fun E C => ?_)
  unfold f_X6_says
  refine ky_aload_n C dX6_says_0 0 rfl ?_
  refine ky_get C (ltR hG) (ceR hG) rfl inWX6 9 (by decide) (wY_in tw_3_79) rfl rfl dX6_says_1 ?_
  refine ky_bipush C (6 : Int32) dX6_says_4 (by decide) ?_
  refine ky_iload_n C dX6_says_6 1 rfl ?_
  refine ky_imul C dX6_says_7 ?_
  refine ky_iconst C (1 : Int32) dX6_says_8 (by decide) ?_
  refine ky_iadd C dX6_says_9 ?_
  refine ky_iald C (ltA hG ar4) (ceA4 hG) (tR0 hG) dX6_says_10 (fun hx1 => ?_)
  refine ky_nmi (fun x2 => ?_)
  refine ky_istore_n (lv' := [(3, .int x2), (0, .ref (gA G 0)), (1, .int a1), (2, .int a2)]) C dX6_says_11 (by decide) rfl ?_
  refine ky_aload_n C dX6_says_12 1 rfl ?_
  refine ky_get C (ltR hG) (ceR hG) rfl inWX6 7 (by decide) (wY_in tw_3_77) rfl rfl dX6_says_13 ?_
  refine ky_iload_n C dX6_says_16 0 rfl ?_
  refine ky_iald C (ltA hG ar3) (ceA3 hG) (tR0 hG) dX6_says_17 (fun hx3 => ?_)
  refine ky_iload_n C dX6_says_18 3 rfl ?_
  refine ky_ishr C dX6_says_19 ?_
  refine ky_iconst C (1 : Int32) dX6_says_20 (by decide) ?_
  refine ky_iand C dX6_says_21 ?_
  refine ky_if_ne C 29 dX6_says_22 (by decide) ?_ ?_
  · refine ky_iconst C (1 : Int32) dX6_says_25 (by decide) ?_
    refine ky_goto C 30 dX6_says_26 (by decide) ?_
    exact ky_sub [1, 2, 3, 0] rfl (jX6_says_30 hG C F a1 a2 x2 (1 : Int32) M )
  · refine ky_iconst C (0 : Int32) dX6_says_29 (by decide) ?_
    exact ky_sub [1, 2, 3, 0] rfl (jX6_says_30 hG C F a1 a2 x2 (0 : Int32) M )
def rmX6_dayOf : Room := { frames := 1, cells := 0, slots := 0, locals := 26 }
theorem hd_X6_dayOf : yX6_dayOf.cls = RX6 ∧ yX6_dayOf.cls ≠ "java/lang/invoke/MethodHandle" ∧ yX6_dayOf.cls ≠ "java/lang/invoke/VarHandle" ∧ (parseMethodDescriptor yX6_dayOf.desc).map (fun d => d.parameters.length) = some 1 := ⟨rfl, by decide, by decide, by decide +kernel⟩
def LX6_dayOf_2 (F : Nat)  : Nat → Int32 → Int32 → Mem → Option (Int32 × Mem)
  | 0, _, _, _ => none
  | n + 1, xv1, xv2, M => gi (((6 : Int32) * xv1) + (2 : Int32)) 24 (if (M.1 4 (((6 : Int32) * xv1) + (2 : Int32)).toNatClampNeg) ≤ 0 then (some (xv2, M)) else (gi (((6 : Int32) * xv1) + (4 : Int32)) 24 (if (M.1 4 (((6 : Int32) * xv1) + (4 : Int32)).toNatClampNeg) ≤ 0 then (some (xv2, M)) else (bd (f_X6_draw F (6 : Int32) M) (fun r3 M4 => gi (((6 : Int32) * xv1) + (4 : Int32)) 24 (nm ((M4.1 4 (((6 : Int32) * xv1) + (4 : Int32)).toNatClampNeg) - (1 : Int32)) (fun x6 => gi (((6 : Int32) * xv1) + (4 : Int32)) 24 (nm (u2 M4 4 (((6 : Int32) * xv1) + (4 : Int32)).toNatClampNeg x6) (fun M7 => bd (f_X6_knows F xv1 r3 M7) (fun r9 M10 => if r9 = 0 then (nm (xv2 + (0 : Int32)) (fun x11 => LX6_dayOf_2 F n xv1 x11 M10)) else (bd (f_X6_says F xv1 r3 M10) (fun r12 M13 => nm (xv2 + r12) (fun x14 => LX6_dayOf_2 F n xv1 x14 M13)))))))))))))
theorem LX6_dayOf_2_s (F : Nat)  (n : Nat) (xv1 : Int32) (xv2 : Int32) (M : Mem) : LX6_dayOf_2 F (n + 1) xv1 xv2 M = (gi (((6 : Int32) * xv1) + (2 : Int32)) 24 (if (M.1 4 (((6 : Int32) * xv1) + (2 : Int32)).toNatClampNeg) ≤ 0 then (some (xv2, M)) else (gi (((6 : Int32) * xv1) + (4 : Int32)) 24 (if (M.1 4 (((6 : Int32) * xv1) + (4 : Int32)).toNatClampNeg) ≤ 0 then (some (xv2, M)) else (bd (f_X6_draw F (6 : Int32) M) (fun r3 M4 => gi (((6 : Int32) * xv1) + (4 : Int32)) 24 (nm ((M4.1 4 (((6 : Int32) * xv1) + (4 : Int32)).toNatClampNeg) - (1 : Int32)) (fun x6 => gi (((6 : Int32) * xv1) + (4 : Int32)) 24 (nm (u2 M4 4 (((6 : Int32) * xv1) + (4 : Int32)).toNatClampNeg x6) (fun M7 => bd (f_X6_knows F xv1 r3 M7) (fun r9 M10 => if r9 = 0 then (nm (xv2 + (0 : Int32)) (fun x11 => LX6_dayOf_2 F n xv1 x11 M10)) else (bd (f_X6_says F xv1 r3 M10) (fun r12 M13 => nm (xv2 + r12) (fun x14 => LX6_dayOf_2 F n xv1 x14 M13)))))))))))))) := rfl
set_option maxRecDepth 100000 in
set_option maxHeartbeats 4000000 in
theorem lX6_dayOf_2 {G : KyG} {cy : ClassId} (hG : IsR G cy) {E : KyE} (C : Cx G E cX6_dayOf 4 RX6 (wY yX6_dayOf cX6_dayOf 4 (some .int)) (some .int) rmX6_dayOf) (F : Nat)   : ∀ (n : Nat) (xv1 : Int32) (xv2 : Int32) (M : Mem) , Wo G E 4 rI (LX6_dayOf_2 F n xv1 xv2 M) M 2 [(0, .ref (gA G 0)), (1, .int xv1), (2, .int xv2)] [] := by
  intro n
  induction n with
  | zero => intro xv1 xv2 M ; exact ky_none
  | succ n ih =>
    intro xv1 xv2 M 
    rw [LX6_dayOf_2_s]
    refine ky_aload_n C dX6_dayOf_2 0 rfl ?_
    refine ky_get C (ltR hG) (ceR hG) rfl inWX6 9 (by decide) (wY_in tw_3_79) rfl rfl dX6_dayOf_3 ?_
    refine ky_bipush C (6 : Int32) dX6_dayOf_6 (by decide) ?_
    refine ky_iload_n C dX6_dayOf_8 1 rfl ?_
    refine ky_imul C dX6_dayOf_9 ?_
    refine ky_iconst C (2 : Int32) dX6_dayOf_10 (by decide) ?_
    refine ky_iadd C dX6_dayOf_11 ?_
    refine ky_iald C (ltA hG ar4) (ceA4 hG) (tR0 hG) dX6_dayOf_12 (fun hx1 => ?_)
    refine ky_if_le C 77 dX6_dayOf_13 (by decide) ?_ ?_
    · refine ky_iload_n C dX6_dayOf_77 2 rfl ?_
      exact ky_iret C dX6_dayOf_78
    · refine ky_aload_n C dX6_dayOf_16 0 rfl ?_
      refine ky_get C (ltR hG) (ceR hG) rfl inWX6 9 (by decide) (wY_in tw_3_79) rfl rfl dX6_dayOf_17 ?_
      refine ky_bipush C (6 : Int32) dX6_dayOf_20 (by decide) ?_
      refine ky_iload_n C dX6_dayOf_22 1 rfl ?_
      refine ky_imul C dX6_dayOf_23 ?_
      refine ky_iconst C (4 : Int32) dX6_dayOf_24 (by decide) ?_
      refine ky_iadd C dX6_dayOf_25 ?_
      refine ky_iald C (ltA hG ar4) (ceA4 hG) (tR0 hG) dX6_dayOf_26 (fun hx2 => ?_)
      refine ky_if_le C 77 dX6_dayOf_27 (by decide) ?_ ?_
      · refine ky_iload_n C dX6_dayOf_77 2 rfl ?_
        exact ky_iret C dX6_dayOf_78
      · refine ky_aload_n C dX6_dayOf_30 0 rfl ?_
        refine ky_bipush C (6 : Int32) dX6_dayOf_31 (by decide) ?_
        refine ky_callVi C (c_X6_draw hG F (6 : Int32) M ) (ltR hG) (ceR hG) rfl (wY_goodV tw_4_94 tw_4_96 tw_p30 tw_1_7 tw_4_97) hd_X6_draw ⟨rfl, rfl, by decide, by decide⟩ rfl rfl (Nat.le_of_ble_eq_true rfl) dX6_dayOf_33 (fun r3 M4 => ?_)
        refine ky_istore_n (lv' := [(3, .int r3), (0, .ref (gA G 0)), (1, .int xv1), (2, .int xv2)]) C dX6_dayOf_36 (by decide) rfl ?_
        refine ky_aload_n C dX6_dayOf_37 1 rfl ?_
        refine ky_get C (ltR hG) (ceR hG) rfl inWX6 9 (by decide) (wY_in tw_3_79) rfl rfl dX6_dayOf_38 ?_
        refine ky_bipush C (6 : Int32) dX6_dayOf_41 (by decide) ?_
        refine ky_iload_n C dX6_dayOf_43 2 rfl ?_
        refine ky_imul C dX6_dayOf_44 ?_
        refine ky_iconst C (4 : Int32) dX6_dayOf_45 (by decide) ?_
        refine ky_iadd C dX6_dayOf_46 ?_
        refine ky_dup2 C dX6_dayOf_47 rfl rfl ?_
        refine ky_iald C (ltA hG ar4) (ceA4 hG) (tR0 hG) dX6_dayOf_48 (fun hx5 => ?_)
        refine ky_iconst C (1 : Int32) dX6_dayOf_49 (by decide) ?_
        refine ky_isub C dX6_dayOf_50 ?_
        refine ky_nmi (fun x6 => ?_)
        refine ky_iast C (ltA hG ar4) (ceA4 hG) (tR0 hG) dX6_dayOf_51 (fun M7 hx8 => ?_)
        refine ky_iload_n C dX6_dayOf_52 3 rfl ?_
        refine ky_aload_n C dX6_dayOf_53 1 rfl ?_
        refine ky_iload_n C dX6_dayOf_54 2 rfl ?_
        refine ky_iload_n C dX6_dayOf_55 0 rfl ?_
        refine ky_callVi C (c_X6_knows hG F xv1 r3 M7 ) (ltR hG) (ceR hG) rfl (wY_goodV tw_4_10 tw_4_12 tw_p19 tw_1_7 tw_4_13) hd_X6_knows ⟨rfl, rfl, by decide, by decide⟩ rfl rfl (Nat.le_of_ble_eq_true rfl) dX6_dayOf_56 (fun r9 M10 => ?_)
        refine ky_if_eq C 71 dX6_dayOf_59 (by decide) ?_ ?_
        · refine ky_iconst C (0 : Int32) dX6_dayOf_71 (by decide) ?_
          refine ky_iadd C dX6_dayOf_72 ?_
          refine ky_nmi (fun x11 => ?_)
          refine ky_istore_n (lv' := [(2, .int x11), (3, .int r3), (0, .ref (gA G 0)), (1, .int xv1)]) C dX6_dayOf_73 (by decide) rfl ?_
          refine ky_goto C 2 dX6_dayOf_74 (by decide) ?_
          exact ky_sub [2, 3, 0] rfl (ih xv1 x11 M10 )
        · refine ky_aload_n C dX6_dayOf_62 1 rfl ?_
          refine ky_iload_n C dX6_dayOf_63 2 rfl ?_
          refine ky_iload_n C dX6_dayOf_64 0 rfl ?_
          refine ky_callVi C (c_X6_says hG F xv1 r3 M10 ) (ltR hG) (ceR hG) rfl (wY_goodV tw_4_14 tw_4_16 tw_p20 tw_1_7 tw_4_17) hd_X6_says ⟨rfl, rfl, by decide, by decide⟩ rfl rfl (Nat.le_of_ble_eq_true rfl) dX6_dayOf_65 (fun r12 M13 => ?_)
          refine ky_goto C 72 dX6_dayOf_68 (by decide) ?_
          refine ky_iadd C dX6_dayOf_72 ?_
          refine ky_nmi (fun x14 => ?_)
          refine ky_istore_n (lv' := [(2, .int x14), (3, .int r3), (0, .ref (gA G 0)), (1, .int xv1)]) C dX6_dayOf_73 (by decide) rfl ?_
          refine ky_goto C 2 dX6_dayOf_74 (by decide) ?_
          exact ky_sub [2, 3, 0] rfl (ih xv1 x14 M13 )
def f_X6_dayOf (F : Nat) (a1 : Int32) (M : Mem) : Option (Int32 × Mem) := LX6_dayOf_2 F  F a1 (0 : Int32) M
set_option maxRecDepth 100000 in
set_option maxHeartbeats 4000000 in
theorem c_X6_dayOf {G : KyG} {cy : ClassId} (hG : IsR G cy) (F : Nat)  (a1 : Int32) (M : Mem)  : Ct G yX6_dayOf (wY yX6_dayOf cX6_dayOf 4 (some .int)) rmX6_dayOf rI [.ref (gA G 0), .int a1] (f_X6_dayOf F a1 M) M := by
  refine Ct_of cX6_dayOf 4 (some .int) RX6 hG.2.2.2 (by decide) rfl rfl (Nat.le_of_ble_eq_true rfl) rfl (fun E C => ?_)
  unfold f_X6_dayOf
  refine ky_iconst C (0 : Int32) dX6_dayOf_0 (by decide) ?_
  refine ky_istore_n (lv' := [(2, .int (0 : Int32)), (0, .ref (gA G 0)), (1, .int a1)]) C dX6_dayOf_1 (by decide) rfl ?_
  exact ky_sub [1, 2, 0] rfl (lX6_dayOf_2 hG C F   F a1 (0 : Int32) M )
